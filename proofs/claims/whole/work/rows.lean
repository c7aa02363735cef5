section
-- ===== PART A: goes FIRST, ahead of the names: the tables' words, and 'selects' of the private methods out of them =====
/-- a private method of a class that the tables say can be made, by its rows of tables_1 -/
def lw_okq (q : MethodName × Nat) : Prop := (q.1.cls ≠ "java/lang/invoke/MethodHandle" ∧ q.1.cls ≠ "java/lang/invoke/VarHandle") ∧ Cond.instantiable q.1.cls q.2 ∈ tables_1 ∧ Cond.privateMethod q.1 ∈ tables_1 ∧ Cond.instanceMethod q.1 ∈ tables_1
theorem lw_p0 : lw_okq (⟨"LonelyDots", "found", "(I)I"⟩, 7) := ⟨⟨by decide +kernel, by decide +kernel⟩, List.mem_of_getElem? (i := 18) (by decide +kernel), List.mem_of_getElem? (i := 134) (by decide +kernel), List.mem_of_getElem? (i := 135) (by decide +kernel)⟩
theorem lw_p1 : lw_okq (⟨"LonelyDots", "settled", "(I)I"⟩, 7) := ⟨⟨by decide +kernel, by decide +kernel⟩, List.mem_of_getElem? (i := 18) (by decide +kernel), List.mem_of_getElem? (i := 144) (by decide +kernel), List.mem_of_getElem? (i := 145) (by decide +kernel)⟩
theorem lw_p2 : lw_okq (⟨"LonelyDots", "findingOfItems", "(III)I"⟩, 7) := ⟨⟨by decide +kernel, by decide +kernel⟩, List.mem_of_getElem? (i := 18) (by decide +kernel), List.mem_of_getElem? (i := 178) (by decide +kernel), List.mem_of_getElem? (i := 179) (by decide +kernel)⟩
theorem lw_p3 : lw_okq (⟨"LonelyDots", "shelve", "(ILLonelyDots$Thing;)I"⟩, 7) := ⟨⟨by decide +kernel, by decide +kernel⟩, List.mem_of_getElem? (i := 18) (by decide +kernel), List.mem_of_getElem? (i := 268) (by decide +kernel), List.mem_of_getElem? (i := 269) (by decide +kernel)⟩
theorem lw_p4 : lw_okq (⟨"LonelyDots$Marks", "hasAllDistances", "()Z"⟩, 1) := ⟨⟨by decide +kernel, by decide +kernel⟩, List.mem_of_getElem? (i := 300) (by decide +kernel), List.mem_of_getElem? (i := 314) (by decide +kernel), List.mem_of_getElem? (i := 315) (by decide +kernel)⟩
theorem lw_p5 : lw_okq (⟨"LonelyDots", "orderAt", "(I)LLonelyDots$Order;"⟩, 7) := ⟨⟨by decide +kernel, by decide +kernel⟩, List.mem_of_getElem? (i := 18) (by decide +kernel), List.mem_of_getElem? (i := 361) (by decide +kernel), List.mem_of_getElem? (i := 362) (by decide +kernel)⟩
theorem lw_p6 : lw_okq (⟨"LonelyDots", "findingOfNoOrder", "(I)I"⟩, 7) := ⟨⟨by decide +kernel, by decide +kernel⟩, List.mem_of_getElem? (i := 18) (by decide +kernel), List.mem_of_getElem? (i := 366) (by decide +kernel), List.mem_of_getElem? (i := 367) (by decide +kernel)⟩
theorem lw_p7 : lw_okq (⟨"LonelyDots", "lonelyList", "(I)LLonelyDots$LonelyList;"⟩, 7) := ⟨⟨by decide +kernel, by decide +kernel⟩, List.mem_of_getElem? (i := 18) (by decide +kernel), List.mem_of_getElem? (i := 411) (by decide +kernel), List.mem_of_getElem? (i := 412) (by decide +kernel)⟩
theorem lw_p8 : lw_okq (⟨"LonelyDots$LonelyList", "keep", "()V"⟩, 5) := ⟨⟨by decide +kernel, by decide +kernel⟩, List.mem_of_getElem? (i := 418) (by decide +kernel), List.mem_of_getElem? (i := 445) (by decide +kernel), List.mem_of_getElem? (i := 446) (by decide +kernel)⟩
theorem lw_p9 : lw_okq (⟨"LonelyDots$LonelyList", "isFirstOfItsTurns", "()Z"⟩, 5) := ⟨⟨by decide +kernel, by decide +kernel⟩, List.mem_of_getElem? (i := 418) (by decide +kernel), List.mem_of_getElem? (i := 452) (by decide +kernel), List.mem_of_getElem? (i := 453) (by decide +kernel)⟩
theorem lw_p10 : lw_okq (⟨"LonelyDots$LonelyList", "isLonelyUpTo", "(I)Z"⟩, 5) := ⟨⟨by decide +kernel, by decide +kernel⟩, List.mem_of_getElem? (i := 418) (by decide +kernel), List.mem_of_getElem? (i := 457) (by decide +kernel), List.mem_of_getElem? (i := 458) (by decide +kernel)⟩
theorem lw_p11 : lw_okq (⟨"LonelyDots$Moves", "mostMovedByRows", "([I[II)I"⟩, 2) := ⟨⟨by decide +kernel, by decide +kernel⟩, List.mem_of_getElem? (i := 44) (by decide +kernel), List.mem_of_getElem? (i := 584) (by decide +kernel), List.mem_of_getElem? (i := 585) (by decide +kernel)⟩
theorem lw_p12 : lw_okq (⟨"LonelyDots$Moves", "tallyFits", "([III)V"⟩, 2) := ⟨⟨by decide +kernel, by decide +kernel⟩, List.mem_of_getElem? (i := 44) (by decide +kernel), List.mem_of_getElem? (i := 606) (by decide +kernel), List.mem_of_getElem? (i := 607) (by decide +kernel)⟩
theorem lw_p13 : lw_okq (⟨"LonelyDots$Moves", "firstBest", "()I"⟩, 2) := ⟨⟨by decide +kernel, by decide +kernel⟩, List.mem_of_getElem? (i := 44) (by decide +kernel), List.mem_of_getElem? (i := 610) (by decide +kernel), List.mem_of_getElem? (i := 611) (by decide +kernel)⟩
theorem lw_p14 : lw_okq (⟨"LonelyDots$RulerSearch", "hasNewDistances", "(II)Z"⟩, 4) := ⟨⟨by decide +kernel, by decide +kernel⟩, List.mem_of_getElem? (i := 59) (by decide +kernel), List.mem_of_getElem? (i := 629) (by decide +kernel), List.mem_of_getElem? (i := 630) (by decide +kernel)⟩
theorem lw_p15 : lw_okq (⟨"LonelyDots$RulerSearch", "mindDistances", "(IIZ)V"⟩, 4) := ⟨⟨by decide +kernel, by decide +kernel⟩, List.mem_of_getElem? (i := 59) (by decide +kernel), List.mem_of_getElem? (i := 633) (by decide +kernel), List.mem_of_getElem? (i := 634) (by decide +kernel)⟩
def lw_privs_1 : List (MethodName × Nat) := [(⟨"LonelyDots", "found", "(I)I"⟩, 7), (⟨"LonelyDots", "settled", "(I)I"⟩, 7), (⟨"LonelyDots", "findingOfItems", "(III)I"⟩, 7), (⟨"LonelyDots", "shelve", "(ILLonelyDots$Thing;)I"⟩, 7), (⟨"LonelyDots$Marks", "hasAllDistances", "()Z"⟩, 1), (⟨"LonelyDots", "orderAt", "(I)LLonelyDots$Order;"⟩, 7), (⟨"LonelyDots", "findingOfNoOrder", "(I)I"⟩, 7), (⟨"LonelyDots", "lonelyList", "(I)LLonelyDots$LonelyList;"⟩, 7), (⟨"LonelyDots$LonelyList", "keep", "()V"⟩, 5), (⟨"LonelyDots$LonelyList", "isFirstOfItsTurns", "()Z"⟩, 5), (⟨"LonelyDots$LonelyList", "isLonelyUpTo", "(I)Z"⟩, 5), (⟨"LonelyDots$Moves", "mostMovedByRows", "([I[II)I"⟩, 2), (⟨"LonelyDots$Moves", "tallyFits", "([III)V"⟩, 2), (⟨"LonelyDots$Moves", "firstBest", "()I"⟩, 2), (⟨"LonelyDots$RulerSearch", "hasNewDistances", "(II)Z"⟩, 4), (⟨"LonelyDots$RulerSearch", "mindDistances", "(IIZ)V"⟩, 4)]
theorem lw_r1 : ∀ q ∈ lw_privs_1, lw_okq q := List.forall_mem_cons.mpr ⟨lw_p0, List.forall_mem_cons.mpr ⟨lw_p1, List.forall_mem_cons.mpr ⟨lw_p2, List.forall_mem_cons.mpr ⟨lw_p3, List.forall_mem_cons.mpr ⟨lw_p4, List.forall_mem_cons.mpr ⟨lw_p5, List.forall_mem_cons.mpr ⟨lw_p6, List.forall_mem_cons.mpr ⟨lw_p7, List.forall_mem_cons.mpr ⟨lw_p8, List.forall_mem_cons.mpr ⟨lw_p9, List.forall_mem_cons.mpr ⟨lw_p10, List.forall_mem_cons.mpr ⟨lw_p11, List.forall_mem_cons.mpr ⟨lw_p12, List.forall_mem_cons.mpr ⟨lw_p13, List.forall_mem_cons.mpr ⟨lw_p14, List.forall_mem_cons.mpr ⟨lw_p15, fun _ h => absurd h List.not_mem_nil⟩⟩⟩⟩⟩⟩⟩⟩⟩⟩⟩⟩⟩⟩⟩⟩
theorem lw_p16 : lw_okq (⟨"LonelyDots", "sheetsThere", "()I"⟩, 7) := ⟨⟨by decide +kernel, by decide +kernel⟩, List.mem_of_getElem? (i := 18) (by decide +kernel), List.mem_of_getElem? (i := 641) (by decide +kernel), List.mem_of_getElem? (i := 642) (by decide +kernel)⟩
theorem lw_p17 : lw_okq (⟨"LonelyDots", "thingsOfKind", "(I)I"⟩, 7) := ⟨⟨by decide +kernel, by decide +kernel⟩, List.mem_of_getElem? (i := 18) (by decide +kernel), List.mem_of_getElem? (i := 645) (by decide +kernel), List.mem_of_getElem? (i := 646) (by decide +kernel)⟩
theorem lw_p18 : lw_okq (⟨"LonelyDotsModel", "finds", "(I)I"⟩, 17) := ⟨⟨by decide +kernel, by decide +kernel⟩, List.mem_of_getElem? (i := 653) (by decide +kernel), List.mem_of_getElem? (i := 724) (by decide +kernel), List.mem_of_getElem? (i := 725) (by decide +kernel)⟩
theorem lw_p19 : lw_okq (⟨"LonelyDotsModel", "well", "(I)I"⟩, 17) := ⟨⟨by decide +kernel, by decide +kernel⟩, List.mem_of_getElem? (i := 653) (by decide +kernel), List.mem_of_getElem? (i := 729) (by decide +kernel), List.mem_of_getElem? (i := 730) (by decide +kernel)⟩
theorem lw_p20 : lw_okq (⟨"LonelyDotsModel", "make", "(II)V"⟩, 17) := ⟨⟨by decide +kernel, by decide +kernel⟩, List.mem_of_getElem? (i := 653) (by decide +kernel), List.mem_of_getElem? (i := 754) (by decide +kernel), List.mem_of_getElem? (i := 755) (by decide +kernel)⟩
theorem lw_p21 : lw_okq (⟨"LonelyDotsModel", "keep", "(IZ)I"⟩, 17) := ⟨⟨by decide +kernel, by decide +kernel⟩, List.mem_of_getElem? (i := 653) (by decide +kernel), List.mem_of_getElem? (i := 758) (by decide +kernel), List.mem_of_getElem? (i := 759) (by decide +kernel)⟩
theorem lw_p22 : lw_okq (⟨"LonelyDotsModel", "findAlike", "(IZ)Z"⟩, 17) := ⟨⟨by decide +kernel, by decide +kernel⟩, List.mem_of_getElem? (i := 653) (by decide +kernel), List.mem_of_getElem? (i := 762) (by decide +kernel), List.mem_of_getElem? (i := 763) (by decide +kernel)⟩
theorem lw_p23 : lw_okq (⟨"LonelyDotsModel", "areAlike", "(IZIIII)Z"⟩, 17) := ⟨⟨by decide +kernel, by decide +kernel⟩, List.mem_of_getElem? (i := 653) (by decide +kernel), List.mem_of_getElem? (i := 766) (by decide +kernel), List.mem_of_getElem? (i := 767) (by decide +kernel)⟩
theorem lw_p24 : lw_okq (⟨"LonelyDotsModel", "at0", "(II)I"⟩, 17) := ⟨⟨by decide +kernel, by decide +kernel⟩, List.mem_of_getElem? (i := 653) (by decide +kernel), List.mem_of_getElem? (i := 770) (by decide +kernel), List.mem_of_getElem? (i := 771) (by decide +kernel)⟩
theorem lw_p25 : lw_okq (⟨"LonelyDotsModel", "hasAll", "(I)Z"⟩, 17) := ⟨⟨by decide +kernel, by decide +kernel⟩, List.mem_of_getElem? (i := 653) (by decide +kernel), List.mem_of_getElem? (i := 775) (by decide +kernel), List.mem_of_getElem? (i := 776) (by decide +kernel)⟩
theorem lw_p26 : lw_okq (⟨"LonelyDotsModel", "copyThing", "(II)V"⟩, 17) := ⟨⟨by decide +kernel, by decide +kernel⟩, List.mem_of_getElem? (i := 653) (by decide +kernel), List.mem_of_getElem? (i := 779) (by decide +kernel), List.mem_of_getElem? (i := 780) (by decide +kernel)⟩
theorem lw_p27 : lw_okq (⟨"LonelyDotsModel", "refusal", "(II)I"⟩, 17) := ⟨⟨by decide +kernel, by decide +kernel⟩, List.mem_of_getElem? (i := 653) (by decide +kernel), List.mem_of_getElem? (i := 812) (by decide +kernel), List.mem_of_getElem? (i := 813) (by decide +kernel)⟩
theorem lw_p28 : lw_okq (⟨"LonelyDotsModel", "turned", "(III)I"⟩, 17) := ⟨⟨by decide +kernel, by decide +kernel⟩, List.mem_of_getElem? (i := 653) (by decide +kernel), List.mem_of_getElem? (i := 828) (by decide +kernel), List.mem_of_getElem? (i := 829) (by decide +kernel)⟩
theorem lw_p29 : lw_okq (⟨"LonelyDotsModel", "turned4", "(III)I"⟩, 17) := ⟨⟨by decide +kernel, by decide +kernel⟩, List.mem_of_getElem? (i := 653) (by decide +kernel), List.mem_of_getElem? (i := 832) (by decide +kernel), List.mem_of_getElem? (i := 833) (by decide +kernel)⟩
theorem lw_p30 : lw_okq (⟨"LonelyDotsModel", "first", "(I)V"⟩, 17) := ⟨⟨by decide +kernel, by decide +kernel⟩, List.mem_of_getElem? (i := 653) (by decide +kernel), List.mem_of_getElem? (i := 840) (by decide +kernel), List.mem_of_getElem? (i := 841) (by decide +kernel)⟩
theorem lw_p31 : lw_okq (⟨"LonelyDotsModel", "next", "()Z"⟩, 17) := ⟨⟨by decide +kernel, by decide +kernel⟩, List.mem_of_getElem? (i := 653) (by decide +kernel), List.mem_of_getElem? (i := 844) (by decide +kernel), List.mem_of_getElem? (i := 845) (by decide +kernel)⟩
def lw_privs_2 : List (MethodName × Nat) := [(⟨"LonelyDots", "sheetsThere", "()I"⟩, 7), (⟨"LonelyDots", "thingsOfKind", "(I)I"⟩, 7), (⟨"LonelyDotsModel", "finds", "(I)I"⟩, 17), (⟨"LonelyDotsModel", "well", "(I)I"⟩, 17), (⟨"LonelyDotsModel", "make", "(II)V"⟩, 17), (⟨"LonelyDotsModel", "keep", "(IZ)I"⟩, 17), (⟨"LonelyDotsModel", "findAlike", "(IZ)Z"⟩, 17), (⟨"LonelyDotsModel", "areAlike", "(IZIIII)Z"⟩, 17), (⟨"LonelyDotsModel", "at0", "(II)I"⟩, 17), (⟨"LonelyDotsModel", "hasAll", "(I)Z"⟩, 17), (⟨"LonelyDotsModel", "copyThing", "(II)V"⟩, 17), (⟨"LonelyDotsModel", "refusal", "(II)I"⟩, 17), (⟨"LonelyDotsModel", "turned", "(III)I"⟩, 17), (⟨"LonelyDotsModel", "turned4", "(III)I"⟩, 17), (⟨"LonelyDotsModel", "first", "(I)V"⟩, 17), (⟨"LonelyDotsModel", "next", "()Z"⟩, 17)]
theorem lw_r2 : ∀ q ∈ lw_privs_2, lw_okq q := List.forall_mem_cons.mpr ⟨lw_p16, List.forall_mem_cons.mpr ⟨lw_p17, List.forall_mem_cons.mpr ⟨lw_p18, List.forall_mem_cons.mpr ⟨lw_p19, List.forall_mem_cons.mpr ⟨lw_p20, List.forall_mem_cons.mpr ⟨lw_p21, List.forall_mem_cons.mpr ⟨lw_p22, List.forall_mem_cons.mpr ⟨lw_p23, List.forall_mem_cons.mpr ⟨lw_p24, List.forall_mem_cons.mpr ⟨lw_p25, List.forall_mem_cons.mpr ⟨lw_p26, List.forall_mem_cons.mpr ⟨lw_p27, List.forall_mem_cons.mpr ⟨lw_p28, List.forall_mem_cons.mpr ⟨lw_p29, List.forall_mem_cons.mpr ⟨lw_p30, List.forall_mem_cons.mpr ⟨lw_p31, fun _ h => absurd h List.not_mem_nil⟩⟩⟩⟩⟩⟩⟩⟩⟩⟩⟩⟩⟩⟩⟩⟩
theorem lw_p32 : lw_okq (⟨"LonelyDotsModel", "sizeOf", "(I)I"⟩, 17) := ⟨⟨by decide +kernel, by decide +kernel⟩, List.mem_of_getElem? (i := 653) (by decide +kernel), List.mem_of_getElem? (i := 869) (by decide +kernel), List.mem_of_getElem? (i := 870) (by decide +kernel)⟩
theorem lw_p33 : lw_okq (⟨"LonelyDotsModel", "begins", "(I)V"⟩, 17) := ⟨⟨by decide +kernel, by decide +kernel⟩, List.mem_of_getElem? (i := 653) (by decide +kernel), List.mem_of_getElem? (i := 873) (by decide +kernel), List.mem_of_getElem? (i := 874) (by decide +kernel)⟩
theorem lw_p34 : lw_okq (⟨"LonelyDotsModel", "countMarks", "(I)I"⟩, 17) := ⟨⟨by decide +kernel, by decide +kernel⟩, List.mem_of_getElem? (i := 653) (by decide +kernel), List.mem_of_getElem? (i := 877) (by decide +kernel), List.mem_of_getElem? (i := 878) (by decide +kernel)⟩
theorem lw_p35 : lw_okq (⟨"LonelyDotsModel", "mark", "(I)I"⟩, 17) := ⟨⟨by decide +kernel, by decide +kernel⟩, List.mem_of_getElem? (i := 653) (by decide +kernel), List.mem_of_getElem? (i := 881) (by decide +kernel), List.mem_of_getElem? (i := 882) (by decide +kernel)⟩
theorem lw_p36 : lw_okq (⟨"LonelyDotsModel", "meet", "(IIII)I"⟩, 17) := ⟨⟨by decide +kernel, by decide +kernel⟩, List.mem_of_getElem? (i := 653) (by decide +kernel), List.mem_of_getElem? (i := 906) (by decide +kernel), List.mem_of_getElem? (i := 907) (by decide +kernel)⟩
theorem lw_p37 : lw_okq (⟨"LonelyDotsModel", "greatest", "(IIZ)I"⟩, 17) := ⟨⟨by decide +kernel, by decide +kernel⟩, List.mem_of_getElem? (i := 653) (by decide +kernel), List.mem_of_getElem? (i := 914) (by decide +kernel), List.mem_of_getElem? (i := 915) (by decide +kernel)⟩
theorem lw_p38 : lw_okq (⟨"LonelyDotsModel", "isLeast", "()Z"⟩, 17) := ⟨⟨by decide +kernel, by decide +kernel⟩, List.mem_of_getElem? (i := 653) (by decide +kernel), List.mem_of_getElem? (i := 931) (by decide +kernel), List.mem_of_getElem? (i := 932) (by decide +kernel)⟩
theorem lw_p39 : lw_okq (⟨"LonelyDotsModel", "canBe", "(II)Z"⟩, 17) := ⟨⟨by decide +kernel, by decide +kernel⟩, List.mem_of_getElem? (i := 653) (by decide +kernel), List.mem_of_getElem? (i := 940) (by decide +kernel), List.mem_of_getElem? (i := 941) (by decide +kernel)⟩
def lw_privs_3 : List (MethodName × Nat) := [(⟨"LonelyDotsModel", "sizeOf", "(I)I"⟩, 17), (⟨"LonelyDotsModel", "begins", "(I)V"⟩, 17), (⟨"LonelyDotsModel", "countMarks", "(I)I"⟩, 17), (⟨"LonelyDotsModel", "mark", "(I)I"⟩, 17), (⟨"LonelyDotsModel", "meet", "(IIII)I"⟩, 17), (⟨"LonelyDotsModel", "greatest", "(IIZ)I"⟩, 17), (⟨"LonelyDotsModel", "isLeast", "()Z"⟩, 17), (⟨"LonelyDotsModel", "canBe", "(II)Z"⟩, 17)]
theorem lw_r3 : ∀ q ∈ lw_privs_3, lw_okq q := List.forall_mem_cons.mpr ⟨lw_p32, List.forall_mem_cons.mpr ⟨lw_p33, List.forall_mem_cons.mpr ⟨lw_p34, List.forall_mem_cons.mpr ⟨lw_p35, List.forall_mem_cons.mpr ⟨lw_p36, List.forall_mem_cons.mpr ⟨lw_p37, List.forall_mem_cons.mpr ⟨lw_p38, List.forall_mem_cons.mpr ⟨lw_p39, fun _ h => absurd h List.not_mem_nil⟩⟩⟩⟩⟩⟩⟩⟩
def lw_privs : List (MethodName × Nat) := lw_privs_1 ++ (lw_privs_2 ++ (lw_privs_3))
def lw_tbl : List Cond := k2_sels lw_privs ++ tables_1
theorem lw_privs_ok : ∀ q ∈ lw_privs, lw_okq q := by
  show ∀ q ∈ lw_privs_1 ++ (lw_privs_2 ++ (lw_privs_3)), lw_okq q
  exact List.forall_mem_append.mpr ⟨lw_r1, List.forall_mem_append.mpr ⟨lw_r2, lw_r3⟩⟩
-- ===== end of PART A; then your names; then what follows =====
def RX0 : String := "LonelyDots$Lonely"
def TX0 : u_T := fun k => match k with
  | _ => ("LonelyDots$Thing", "numbers", "[I", true)
def tyX0 : Nat → FieldType := fun k => match k with
  | _ => .array .int
abbrev wsX00 : List Cond := u_ws RX0 TX0 1
theorem nmX0 : ∀ a, a < 1 → ∀ b, b < 1 → a ≠ b → (TX0 a).2.1 ≠ (TX0 b).2.1 := by decide +kernel
theorem tyX0_ok : ∀ k, k < 1 → parseFieldDescriptor (TX0 k).2.2.1 = some (tyX0 k) := by decide +kernel
abbrev cX0_init : ByteArray := prog_2_method_1_code
def yX0_init : MethodName := ⟨RX0, "<init>", "([I)V"⟩
abbrev cX0_toldKind : ByteArray := prog_2_method_2_code
def yX0_toldKind : MethodName := ⟨RX0, "toldKind", "()I"⟩
abbrev cX0_askMark : ByteArray := prog_2_method_3_code
def yX0_askMark : MethodName := ⟨RX0, "askMark", "(LLonelyDots$Trace;)I"⟩
def RX1 : String := "LonelyDots$LonelyList"
def TX1 : u_T := fun k => match k with
  | 0 => ("LonelyDots$LonelyList", "columns", "[I", true)
  | 1 => ("LonelyDots$LonelyList", "turned", "[I", true)
  | 2 => ("LonelyDots$LonelyList", "codes", "[I", true)
  | 3 => ("LonelyDots$LonelyList", "size", "I", false)
  | _ => ("LonelyDots$LonelyList", "sizeUpToTurns", "I", false)
def tyX1 : Nat → FieldType := fun k => match k with
  | 0 => .array .int
  | 1 => .array .int
  | 2 => .array .int
  | 3 => .int
  | _ => .int
abbrev wsX10 : List Cond := u_ws RX1 TX1 5
theorem nmX1 : ∀ a, a < 5 → ∀ b, b < 5 → a ≠ b → (TX1 a).2.1 ≠ (TX1 b).2.1 := by decide +kernel
theorem tyX1_ok : ∀ k, k < 5 → parseFieldDescriptor (TX1 k).2.2.1 = some (tyX1 k) := by decide +kernel
abbrev cX1_init : ByteArray := prog_3_method_1_code
def yX1_init : MethodName := ⟨RX1, "<init>", "(I)V"⟩
abbrev cX1_searched : ByteArray := prog_3_method_2_code
def yX1_searched : MethodName := ⟨RX1, "searched", "(I)LLonelyDots$LonelyList;"⟩
abbrev cX1_columnsOf : ByteArray := prog_3_method_3_code
def yX1_columnsOf : MethodName := ⟨RX1, "columnsOf", "(I)[I"⟩
abbrev cX1_search : ByteArray := prog_3_method_4_code
def yX1_search : MethodName := ⟨RX1, "search", "(LLonelyDots$LonelyList;I)V"⟩
abbrev cX1_isLonelyUpTo : ByteArray := prog_3_method_5_code
def yX1_isLonelyUpTo : MethodName := ⟨RX1, "isLonelyUpTo", "(I)Z"⟩
abbrev cX1_keep : ByteArray := prog_3_method_6_code
def yX1_keep : MethodName := ⟨RX1, "keep", "()V"⟩
abbrev cX1_isFirstOfItsTurns : ByteArray := prog_3_method_7_code
def yX1_isFirstOfItsTurns : MethodName := ⟨RX1, "isFirstOfItsTurns", "()Z"⟩
abbrev cX1_code : ByteArray := prog_3_method_8_code
def yX1_code : MethodName := ⟨RX1, "code", "([I)I"⟩
def RX2 : String := "LonelyDots$Marks"
def TX2 : u_T := fun k => match k with
  | _ => ("LonelyDots$Thing", "numbers", "[I", true)
def tyX2 : Nat → FieldType := fun k => match k with
  | _ => .array .int
abbrev wsX20 : List Cond := u_ws RX2 TX2 1
theorem nmX2 : ∀ a, a < 1 → ∀ b, b < 1 → a ≠ b → (TX2 a).2.1 ≠ (TX2 b).2.1 := by decide +kernel
theorem tyX2_ok : ∀ k, k < 1 → parseFieldDescriptor (TX2 k).2.2.1 = some (tyX2 k) := by decide +kernel
abbrev cX2_init : ByteArray := prog_4_method_1_code
def yX2_init : MethodName := ⟨RX2, "<init>", "([I)V"⟩
abbrev cX2_told : ByteArray := prog_4_method_2_code
def yX2_told : MethodName := ⟨RX2, "told", "([I)LLonelyDots$Marks;"⟩
abbrev cX2_rise : ByteArray := prog_4_method_3_code
def yX2_rise : MethodName := ⟨RX2, "rise", "([I)Z"⟩
abbrev cX2_hasAllDistances : ByteArray := prog_4_method_4_code
def yX2_hasAllDistances : MethodName := ⟨RX2, "hasAllDistances", "()Z"⟩
abbrev cX2_toldKind : ByteArray := prog_4_method_5_code
def yX2_toldKind : MethodName := ⟨RX2, "toldKind", "()I"⟩
abbrev cX2_secondAlike : ByteArray := prog_4_method_6_code
def yX2_secondAlike : MethodName := ⟨RX2, "secondAlike", "(III)I"⟩
abbrev cX2_askSize : ByteArray := prog_4_method_7_code
def yX2_askSize : MethodName := ⟨RX2, "askSize", "(LLonelyDots$Trace;)I"⟩
abbrev cX2_askMark : ByteArray := prog_4_method_8_code
def yX2_askMark : MethodName := ⟨RX2, "askMark", "(LLonelyDots$Trace;)I"⟩
def RX3 : String := "LonelyDots$Moves"
def TX3 : u_T := fun k => match k with
  | 0 => ("LonelyDots$Moves", "meetings", "[I", true)
  | _ => ("LonelyDots$Moves", "fits", "[I", true)
def tyX3 : Nat → FieldType := fun k => match k with
  | 0 => .array .int
  | _ => .array .int
abbrev wsX30 : List Cond := u_ws RX3 TX3 2
theorem nmX3 : ∀ a, a < 2 → ∀ b, b < 2 → a ≠ b → (TX3 a).2.1 ≠ (TX3 b).2.1 := by decide +kernel
theorem tyX3_ok : ∀ k, k < 2 → parseFieldDescriptor (TX3 k).2.2.1 = some (tyX3 k) := by decide +kernel
abbrev cX3_init : ByteArray := prog_5_method_1_code
def yX3_init : MethodName := ⟨RX3, "<init>", "()V"⟩
abbrev cX3_meetingDots : ByteArray := prog_5_method_2_code
def yX3_meetingDots : MethodName := ⟨RX3, "meetingDots", "([I[III)I"⟩
abbrev cX3_mostOfTwo : ByteArray := prog_5_method_3_code
def yX3_mostOfTwo : MethodName := ⟨RX3, "mostOfTwo", "([I[I)I"⟩
abbrev cX3_mostWithItself : ByteArray := prog_5_method_4_code
def yX3_mostWithItself : MethodName := ⟨RX3, "mostWithItself", "([I)I"⟩
abbrev cX3_mostMovedByRows : ByteArray := prog_5_method_5_code
def yX3_mostMovedByRows : MethodName := ⟨RX3, "mostMovedByRows", "([I[II)I"⟩
abbrev cX3_partOfEcho : ByteArray := prog_5_method_6_code
def yX3_partOfEcho : MethodName := ⟨RX3, "partOfEcho", "(I[I[III)I"⟩
abbrev cX3_tallyFits : ByteArray := prog_5_method_7_code
def yX3_tallyFits : MethodName := ⟨RX3, "tallyFits", "([III)V"⟩
abbrev cX3_firstBest : ByteArray := prog_5_method_8_code
def yX3_firstBest : MethodName := ⟨RX3, "firstBest", "()I"⟩
def RX4 : String := "LonelyDots$Order"
def TX4 : u_T := fun k => match k with
  | _ => ("LonelyDots$Thing", "numbers", "[I", true)
def tyX4 : Nat → FieldType := fun k => match k with
  | _ => .array .int
abbrev wsX40 : List Cond := u_ws RX4 TX4 1
theorem nmX4 : ∀ a, a < 1 → ∀ b, b < 1 → a ≠ b → (TX4 a).2.1 ≠ (TX4 b).2.1 := by decide +kernel
theorem tyX4_ok : ∀ k, k < 1 → parseFieldDescriptor (TX4 k).2.2.1 = some (tyX4 k) := by decide +kernel
abbrev cX4_init : ByteArray := prog_6_method_1_code
def yX4_init : MethodName := ⟨RX4, "<init>", "([I)V"⟩
abbrev cX4_told : ByteArray := prog_6_method_2_code
def yX4_told : MethodName := ⟨RX4, "told", "([I)LLonelyDots$Order;"⟩
abbrev cX4_hasEachColumnOnce : ByteArray := prog_6_method_3_code
def yX4_hasEachColumnOnce : MethodName := ⟨RX4, "hasEachColumnOnce", "([I)Z"⟩
abbrev cX4_turnInto : ByteArray := prog_6_method_4_code
def yX4_turnInto : MethodName := ⟨RX4, "turnInto", "([I[II)V"⟩
abbrev cX4_toldKind : ByteArray := prog_6_method_5_code
def yX4_toldKind : MethodName := ⟨RX4, "toldKind", "()I"⟩
abbrev cX4_secondAlike : ByteArray := prog_6_method_6_code
def yX4_secondAlike : MethodName := ⟨RX4, "secondAlike", "(III)I"⟩
abbrev cX4_askSize : ByteArray := prog_6_method_7_code
def yX4_askSize : MethodName := ⟨RX4, "askSize", "(LLonelyDots$Trace;)I"⟩
abbrev cX4_hasDotInCorner : ByteArray := prog_6_method_8_code
def yX4_hasDotInCorner : MethodName := ⟨RX4, "hasDotInCorner", "(I)Z"⟩
abbrev cX4_columnsWithoutCorner : ByteArray := prog_6_method_9_code
def yX4_columnsWithoutCorner : MethodName := ⟨RX4, "columnsWithoutCorner", "(I)[I"⟩
abbrev cX4_columnsWithCorner : ByteArray := prog_6_method_10_code
def yX4_columnsWithCorner : MethodName := ⟨RX4, "columnsWithCorner", "(I)[I"⟩
abbrev cX4_isBelow : ByteArray := prog_6_method_11_code
def yX4_isBelow : MethodName := ⟨RX4, "isBelow", "(I)Z"⟩
abbrev cX4_isRight : ByteArray := prog_6_method_12_code
def yX4_isRight : MethodName := ⟨RX4, "isRight", "(I)Z"⟩
def RX5 : String := "LonelyDots$Perfect"
def TX5 : u_T := fun k => match k with
  | _ => ("LonelyDots$Thing", "numbers", "[I", true)
def tyX5 : Nat → FieldType := fun k => match k with
  | _ => .array .int
abbrev wsX50 : List Cond := u_ws RX5 TX5 1
theorem nmX5 : ∀ a, a < 1 → ∀ b, b < 1 → a ≠ b → (TX5 a).2.1 ≠ (TX5 b).2.1 := by decide +kernel
theorem tyX5_ok : ∀ k, k < 1 → parseFieldDescriptor (TX5 k).2.2.1 = some (tyX5 k) := by decide +kernel
abbrev cX5_init : ByteArray := prog_7_method_1_code
def yX5_init : MethodName := ⟨RX5, "<init>", "([I)V"⟩
abbrev cX5_toldKind : ByteArray := prog_7_method_2_code
def yX5_toldKind : MethodName := ⟨RX5, "toldKind", "()I"⟩
abbrev cX5_askSize : ByteArray := prog_7_method_3_code
def yX5_askSize : MethodName := ⟨RX5, "askSize", "(LLonelyDots$Trace;)I"⟩
def RX6 : String := "LonelyDots$Ruler"
def TX6 : u_T := fun k => match k with
  | _ => ("LonelyDots$Thing", "numbers", "[I", true)
def tyX6 : Nat → FieldType := fun k => match k with
  | _ => .array .int
abbrev wsX60 : List Cond := u_ws RX6 TX6 1
theorem nmX6 : ∀ a, a < 1 → ∀ b, b < 1 → a ≠ b → (TX6 a).2.1 ≠ (TX6 b).2.1 := by decide +kernel
theorem tyX6_ok : ∀ k, k < 1 → parseFieldDescriptor (TX6 k).2.2.1 = some (tyX6 k) := by decide +kernel
abbrev cX6_init : ByteArray := prog_8_method_1_code
def yX6_init : MethodName := ⟨RX6, "<init>", "([I)V"⟩
abbrev cX6_toldKind : ByteArray := prog_8_method_2_code
def yX6_toldKind : MethodName := ⟨RX6, "toldKind", "()I"⟩
abbrev cX6_askSize : ByteArray := prog_8_method_3_code
def yX6_askSize : MethodName := ⟨RX6, "askSize", "(LLonelyDots$Trace;)I"⟩
def RX7 : String := "LonelyDots$RulerSearch"
def TX7 : u_T := fun k => match k with
  | 0 => ("LonelyDots$RulerSearch", "known", "[I", true)
  | 1 => ("LonelyDots$RulerSearch", "marks", "[I", true)
  | 2 => ("LonelyDots$RulerSearch", "taken", "[Z", true)
  | _ => ("LonelyDots$RulerSearch", "least", "I", false)
def tyX7 : Nat → FieldType := fun k => match k with
  | 0 => .array .int
  | 1 => .array .int
  | 2 => .array .boolean
  | _ => .int
abbrev wsX70 : List Cond := u_ws RX7 TX7 4
theorem nmX7 : ∀ a, a < 4 → ∀ b, b < 4 → a ≠ b → (TX7 a).2.1 ≠ (TX7 b).2.1 := by decide +kernel
theorem tyX7_ok : ∀ k, k < 4 → parseFieldDescriptor (TX7 k).2.2.1 = some (tyX7 k) := by decide +kernel
abbrev cX7_init : ByteArray := prog_9_method_1_code
def yX7_init : MethodName := ⟨RX7, "<init>", "()V"⟩
abbrev cX7_leastGreatestMark : ByteArray := prog_9_method_2_code
def yX7_leastGreatestMark : MethodName := ⟨RX7, "leastGreatestMark", "(I)I"⟩
abbrev cX7_search : ByteArray := prog_9_method_3_code
def yX7_search : MethodName := ⟨RX7, "search", "(LLonelyDots$RulerSearch;II)V"⟩
abbrev cX7_hasNewDistances : ByteArray := prog_9_method_4_code
def yX7_hasNewDistances : MethodName := ⟨RX7, "hasNewDistances", "(II)Z"⟩
abbrev cX7_mindDistances : ByteArray := prog_9_method_5_code
def yX7_mindDistances : MethodName := ⟨RX7, "mindDistances", "(IIZ)V"⟩
def RX8 : String := "LonelyDots$Sheet"
def TX8 : u_T := fun k => match k with
  | 0 => ("LonelyDots$Sheet", "items", "[I", true)
  | 1 => ("LonelyDots$Sheet", "missing", "Z", false)
  | 2 => ("LonelyDots$Sheet", "lane", "I", false)
  | _ => ("LonelyDots$Sheet", "length", "I", false)
def tyX8 : Nat → FieldType := fun k => match k with
  | 0 => .array .int
  | 1 => .boolean
  | 2 => .int
  | _ => .int
abbrev wsX80 : List Cond := u_ws RX8 TX8 4
theorem nmX8 : ∀ a, a < 4 → ∀ b, b < 4 → a ≠ b → (TX8 a).2.1 ≠ (TX8 b).2.1 := by decide +kernel
theorem tyX8_ok : ∀ k, k < 4 → parseFieldDescriptor (TX8 k).2.2.1 = some (tyX8 k) := by decide +kernel
abbrev cX8_init : ByteArray := prog_10_method_1_code
def yX8_init : MethodName := ⟨RX8, "<init>", "()V"⟩
abbrev cX8_lay : ByteArray := prog_10_method_2_code
def yX8_lay : MethodName := ⟨RX8, "lay", "(II)V"⟩
abbrev cX8_holds : ByteArray := prog_10_method_3_code
def yX8_holds : MethodName := ⟨RX8, "holds", "(II)Z"⟩
abbrev cX8_narrowed : ByteArray := prog_10_method_4_code
def yX8_narrowed : MethodName := ⟨RX8, "narrowed", "(I)I"⟩
abbrev cX8_read : ByteArray := prog_10_method_5_code
def yX8_read : MethodName := ⟨RX8, "read", "(II)[I"⟩
def RX9 : String := "LonelyDots$Thing"
def TX9 : u_T := fun k => match k with
  | _ => ("", "", "", false)
def tyX9 : Nat → FieldType := fun k => match k with
  | _ => .int
abbrev wsX90 : List Cond := u_ws RX9 TX9 0
theorem nmX9 : ∀ a, a < 0 → ∀ b, b < 0 → a ≠ b → (TX9 a).2.1 ≠ (TX9 b).2.1 := by decide +kernel
theorem tyX9_ok : ∀ k, k < 0 → parseFieldDescriptor (TX9 k).2.2.1 = some (tyX9 k) := by decide +kernel
abbrev cX9_init : ByteArray := prog_11_method_1_code
def yX9_init : MethodName := ⟨RX9, "<init>", "([I)V"⟩
abbrev cX9_askSize : ByteArray := prog_11_method_4_code
def yX9_askSize : MethodName := ⟨RX9, "askSize", "(LLonelyDots$Trace;)I"⟩
abbrev cX9_askMark : ByteArray := prog_11_method_5_code
def yX9_askMark : MethodName := ⟨RX9, "askMark", "(LLonelyDots$Trace;)I"⟩
abbrev cX9_partOfAlike : ByteArray := prog_11_method_6_code
def yX9_partOfAlike : MethodName := ⟨RX9, "partOfAlike", "(I)I"⟩
abbrev cX9_laterFirst : ByteArray := prog_11_method_7_code
def yX9_laterFirst : MethodName := ⟨RX9, "laterFirst", "(II)I"⟩
abbrev cX9_partOfPairs : ByteArray := prog_11_method_8_code
def yX9_partOfPairs : MethodName := ⟨RX9, "partOfPairs", "(IIII)I"⟩
def RX10 : String := "LonelyDots$Trace"
def TX10 : u_T := fun k => match k with
  | 0 => ("LonelyDots$Trace", "numbers", "[I", true)
  | _ => ("LonelyDots$Trace", "size", "I", false)
def tyX10 : Nat → FieldType := fun k => match k with
  | 0 => .array .int
  | _ => .int
abbrev wsX100 : List Cond := u_ws RX10 TX10 2
theorem nmX10 : ∀ a, a < 2 → ∀ b, b < 2 → a ≠ b → (TX10 a).2.1 ≠ (TX10 b).2.1 := by decide +kernel
theorem tyX10_ok : ∀ k, k < 2 → parseFieldDescriptor (TX10 k).2.2.1 = some (tyX10 k) := by decide +kernel
abbrev cX10_init : ByteArray := prog_12_method_1_code
def yX10_init : MethodName := ⟨RX10, "<init>", "()V"⟩
abbrev cX10_empty : ByteArray := prog_12_method_2_code
def yX10_empty : MethodName := ⟨RX10, "empty", "()V"⟩
abbrev cX10_begin : ByteArray := prog_12_method_3_code
def yX10_begin : MethodName := ⟨RX10, "begin", "(I)V"⟩
abbrev cX10_number : ByteArray := prog_12_method_4_code
def yX10_number : MethodName := ⟨RX10, "number", "(I)I"⟩
def RX11 : String := "LonelyDots"
def TX11 : u_T := fun k => match k with
  | 0 => ("LonelyDots", "sheets", "[LLonelyDots$Sheet;", true)
  | 1 => ("LonelyDots", "shelf", "[LLonelyDots$Thing;", true)
  | 2 => ("LonelyDots", "bodies", "LLonelyDots$Trace;", true)
  | 3 => ("LonelyDots", "moves", "LLonelyDots$Moves;", true)
  | 4 => ("LonelyDots", "lonelyLists", "[LLonelyDots$LonelyList;", true)
  | 5 => ("LonelyDots", "rulerSearch", "LLonelyDots$RulerSearch;", true)
  | _ => ("LonelyDots", "latestFinding", "I", false)
def tyX11 : Nat → FieldType := fun k => match k with
  | 0 => .array (.object "LonelyDots$Sheet")
  | 1 => .array (.object "LonelyDots$Thing")
  | 2 => .object "LonelyDots$Trace"
  | 3 => .object "LonelyDots$Moves"
  | 4 => .array (.object "LonelyDots$LonelyList")
  | 5 => .object "LonelyDots$RulerSearch"
  | _ => .int
abbrev wsX110 : List Cond := u_ws RX11 TX11 7
theorem nmX11 : ∀ a, a < 7 → ∀ b, b < 7 → a ≠ b → (TX11 a).2.1 ≠ (TX11 b).2.1 := by decide +kernel
theorem tyX11_ok : ∀ k, k < 7 → parseFieldDescriptor (TX11 k).2.2.1 = some (tyX11 k) := by decide +kernel
abbrev cX11_init : ByteArray := prog_1_method_1_code
def yX11_init : MethodName := ⟨RX11, "<init>", "()V"⟩
abbrev cX11_sheet : ByteArray := prog_1_method_2_code
def yX11_sheet : MethodName := ⟨RX11, "sheet", "(III)I"⟩
abbrev cX11_set : ByteArray := prog_1_method_3_code
def yX11_set : MethodName := ⟨RX11, "set", "(III)I"⟩
abbrev cX11_copy : ByteArray := prog_1_method_4_code
def yX11_copy : MethodName := ⟨RX11, "copy", "(IIIII)I"⟩
abbrev cX11_drop : ByteArray := prog_1_method_5_code
def yX11_drop : MethodName := ⟨RX11, "drop", "(I)I"⟩
abbrev cX11_order : ByteArray := prog_1_method_6_code
def yX11_order : MethodName := ⟨RX11, "order", "(IIII)I"⟩
abbrev cX11_marks : ByteArray := prog_1_method_7_code
def yX11_marks : MethodName := ⟨RX11, "marks", "(IIII)I"⟩
abbrev cX11_powers : ByteArray := prog_1_method_8_code
def yX11_powers : MethodName := ⟨RX11, "powers", "(IIII)I"⟩
abbrev cX11_sums : ByteArray := prog_1_method_9_code
def yX11_sums : MethodName := ⟨RX11, "sums", "(IIII)I"⟩
abbrev cX11_take : ByteArray := prog_1_method_10_code
def yX11_take : MethodName := ⟨RX11, "take", "(III)I"⟩
abbrev cX11_put : ByteArray := prog_1_method_11_code
def yX11_put : MethodName := ⟨RX11, "put", "(III)I"⟩
abbrev cX11_turn : ByteArray := prog_1_method_12_code
def yX11_turn : MethodName := ⟨RX11, "turn", "(III)I"⟩
abbrev cX11_nth : ByteArray := prog_1_method_13_code
def yX11_nth : MethodName := ⟨RX11, "nth", "(III)I"⟩
abbrev cX11_clear : ByteArray := prog_1_method_14_code
def yX11_clear : MethodName := ⟨RX11, "clear", "(I)I"⟩
abbrev cX11_kind : ByteArray := prog_1_method_15_code
def yX11_kind : MethodName := ⟨RX11, "kind", "(I)I"⟩
abbrev cX11_is : ByteArray := prog_1_method_16_code
def yX11_is : MethodName := ⟨RX11, "is", "(II)I"⟩
abbrev cX11_as : ByteArray := prog_1_method_17_code
def yX11_as : MethodName := ⟨RX11, "as", "(II)I"⟩
abbrev cX11_ask : ByteArray := prog_1_method_18_code
def yX11_ask : MethodName := ⟨RX11, "ask", "(II)I"⟩
abbrev cX11_trace : ByteArray := prog_1_method_19_code
def yX11_trace : MethodName := ⟨RX11, "trace", "(I)I"⟩
abbrev cX11_at : ByteArray := prog_1_method_20_code
def yX11_at : MethodName := ⟨RX11, "at", "(II)I"⟩
abbrev cX11_alike : ByteArray := prog_1_method_21_code
def yX11_alike : MethodName := ⟨RX11, "alike", "(II)I"⟩
abbrev cX11_meeting : ByteArray := prog_1_method_22_code
def yX11_meeting : MethodName := ⟨RX11, "meeting", "(IIII)I"⟩
abbrev cX11_most : ByteArray := prog_1_method_23_code
def yX11_most : MethodName := ⟨RX11, "most", "(I)I"⟩
abbrev cX11_together : ByteArray := prog_1_method_24_code
def yX11_together : MethodName := ⟨RX11, "together", "(II)I"⟩
abbrev cX11_echo : ByteArray := prog_1_method_25_code
def yX11_echo : MethodName := ⟨RX11, "echo", "(IIIII)I"⟩
abbrev cX11_lonely : ByteArray := prog_1_method_26_code
def yX11_lonely : MethodName := ⟨RX11, "lonely", "(II)I"⟩
abbrev cX11_shortest : ByteArray := prog_1_method_27_code
def yX11_shortest : MethodName := ⟨RX11, "shortest", "(I)I"⟩
abbrev cX11_count : ByteArray := prog_1_method_28_code
def yX11_count : MethodName := ⟨RX11, "count", "(I)I"⟩
abbrev cX11_status : ByteArray := prog_1_method_29_code
def yX11_status : MethodName := ⟨RX11, "status", "()I"⟩
abbrev cX11_isSheet : ByteArray := prog_1_method_30_code
def yX11_isSheet : MethodName := ⟨RX11, "isSheet", "(I)Z"⟩
abbrev cX11_isPlace : ByteArray := prog_1_method_31_code
def yX11_isPlace : MethodName := ⟨RX11, "isPlace", "(I)Z"⟩
abbrev cX11_found : ByteArray := prog_1_method_32_code
def yX11_found : MethodName := ⟨RX11, "found", "(I)I"⟩
abbrev cX11_settled : ByteArray := prog_1_method_33_code
def yX11_settled : MethodName := ⟨RX11, "settled", "(I)I"⟩
abbrev cX11_shelve : ByteArray := prog_1_method_34_code
def yX11_shelve : MethodName := ⟨RX11, "shelve", "(ILLonelyDots$Thing;)I"⟩
abbrev cX11_findingOfItems : ByteArray := prog_1_method_35_code
def yX11_findingOfItems : MethodName := ⟨RX11, "findingOfItems", "(III)I"⟩
abbrev cX11_orderAt : ByteArray := prog_1_method_36_code
def yX11_orderAt : MethodName := ⟨RX11, "orderAt", "(I)LLonelyDots$Order;"⟩
abbrev cX11_findingOfNoOrder : ByteArray := prog_1_method_37_code
def yX11_findingOfNoOrder : MethodName := ⟨RX11, "findingOfNoOrder", "(I)I"⟩
abbrev cX11_isOfKind : ByteArray := prog_1_method_38_code
def yX11_isOfKind : MethodName := ⟨RX11, "isOfKind", "(LLonelyDots$Thing;I)Z"⟩
abbrev cX11_sheetsThere : ByteArray := prog_1_method_39_code
def yX11_sheetsThere : MethodName := ⟨RX11, "sheetsThere", "()I"⟩
abbrev cX11_thingsOfKind : ByteArray := prog_1_method_40_code
def yX11_thingsOfKind : MethodName := ⟨RX11, "thingsOfKind", "(I)I"⟩
abbrev cX11_lonelyList : ByteArray := prog_1_method_41_code
def yX11_lonelyList : MethodName := ⟨RX11, "lonelyList", "(I)LLonelyDots$LonelyList;"⟩
abbrev cX11_isPrime : ByteArray := prog_1_method_42_code
def yX11_isPrime : MethodName := ⟨RX11, "isPrime", "(I)Z"⟩
abbrev cX11_isRoot : ByteArray := prog_1_method_43_code
def yX11_isRoot : MethodName := ⟨RX11, "isRoot", "(II)Z"⟩
abbrev cX11_exponent : ByteArray := prog_1_method_44_code
def yX11_exponent : MethodName := ⟨RX11, "exponent", "(III)I"⟩
abbrev cX11_columnsByPowers : ByteArray := prog_1_method_45_code
def yX11_columnsByPowers : MethodName := ⟨RX11, "columnsByPowers", "(III)[I"⟩
abbrev cX11_columnsBySums : ByteArray := prog_1_method_46_code
def yX11_columnsBySums : MethodName := ⟨RX11, "columnsBySums", "(III)[I"⟩
def RX12 : String := "LonelyDotsModel"
def TX12 : u_T := fun k => match k with
  | 0 => ("LonelyDotsModel", "lane", "[I", true)
  | 1 => ("LonelyDotsModel", "size", "[I", true)
  | 2 => ("LonelyDotsModel", "item", "[I", true)
  | 3 => ("LonelyDotsModel", "moving", "[I", true)
  | 4 => ("LonelyDotsModel", "kinds", "[I", true)
  | 5 => ("LonelyDotsModel", "many", "[I", true)
  | 6 => ("LonelyDotsModel", "row", "[I", true)
  | 7 => ("LonelyDotsModel", "status", "I", false)
  | 8 => ("LonelyDotsModel", "trace", "[I", true)
  | 9 => ("LonelyDotsModel", "traced", "I", false)
  | 10 => ("LonelyDotsModel", "found", "[I", true)
  | 11 => ("LonelyDotsModel", "met", "[Z", true)
  | 12 => ("LonelyDotsModel", "lonelyCount", "[I", true)
  | 13 => ("LonelyDotsModel", "turnCount", "[I", true)
  | 14 => ("LonelyDotsModel", "known", "I", false)
  | 15 => ("LonelyDotsModel", "short0", "[I", true)
  | _ => ("LonelyDotsModel", "place0", "[I", true)
def tyX12 : Nat → FieldType := fun k => match k with
  | 0 => .array .int
  | 1 => .array .int
  | 2 => .array .int
  | 3 => .array .int
  | 4 => .array .int
  | 5 => .array .int
  | 6 => .array .int
  | 7 => .int
  | 8 => .array .int
  | 9 => .int
  | 10 => .array .int
  | 11 => .array .boolean
  | 12 => .array .int
  | 13 => .array .int
  | 14 => .int
  | 15 => .array .int
  | _ => .array .int
abbrev wsX120 : List Cond := u_ws RX12 TX12 17
theorem nmX12 : ∀ a, a < 17 → ∀ b, b < 17 → a ≠ b → (TX12 a).2.1 ≠ (TX12 b).2.1 := by decide +kernel
theorem tyX12_ok : ∀ k, k < 17 → parseFieldDescriptor (TX12 k).2.2.1 = some (tyX12 k) := by decide +kernel
abbrev cX12_init : ByteArray := prog_14_method_1_code
def yX12_init : MethodName := ⟨RX12, "<init>", "()V"⟩
abbrev cX12_in : ByteArray := prog_14_method_2_code
def yX12_in : MethodName := ⟨RX12, "in", "(JJJ)Z"⟩
abbrev cX12_finds : ByteArray := prog_14_method_3_code
def yX12_finds : MethodName := ⟨RX12, "finds", "(I)I"⟩
abbrev cX12_well : ByteArray := prog_14_method_4_code
def yX12_well : MethodName := ⟨RX12, "well", "(I)I"⟩
abbrev cX12_isSheet : ByteArray := prog_14_method_5_code
def yX12_isSheet : MethodName := ⟨RX12, "isSheet", "(I)Z"⟩
abbrev cX12_sheet : ByteArray := prog_14_method_6_code
def yX12_sheet : MethodName := ⟨RX12, "sheet", "(III)I"⟩
abbrev cX12_set : ByteArray := prog_14_method_7_code
def yX12_set : MethodName := ⟨RX12, "set", "(III)I"⟩
abbrev cX12_copy : ByteArray := prog_14_method_8_code
def yX12_copy : MethodName := ⟨RX12, "copy", "(IIIII)I"⟩
abbrev cX12_drop : ByteArray := prog_14_method_9_code
def yX12_drop : MethodName := ⟨RX12, "drop", "(I)I"⟩
abbrev cX12_isPlace : ByteArray := prog_14_method_10_code
def yX12_isPlace : MethodName := ⟨RX12, "isPlace", "(I)Z"⟩
abbrev cX12_isOf : ByteArray := prog_14_method_11_code
def yX12_isOf : MethodName := ⟨RX12, "isOf", "(II)Z"⟩
abbrev cX12_at0 : ByteArray := prog_14_method_12_code
def yX12_at0 : MethodName := ⟨RX12, "at0", "(II)I"⟩
abbrev cX12_areAlike : ByteArray := prog_14_method_13_code
def yX12_areAlike : MethodName := ⟨RX12, "areAlike", "(IZIIII)Z"⟩
abbrev cX12_findAlike : ByteArray := prog_14_method_14_code
def yX12_findAlike : MethodName := ⟨RX12, "findAlike", "(IZ)Z"⟩
abbrev cX12_hasAll : ByteArray := prog_14_method_15_code
def yX12_hasAll : MethodName := ⟨RX12, "hasAll", "(I)Z"⟩
abbrev cX12_copyThing : ByteArray := prog_14_method_16_code
def yX12_copyThing : MethodName := ⟨RX12, "copyThing", "(II)V"⟩
abbrev cX12_keep : ByteArray := prog_14_method_17_code
def yX12_keep : MethodName := ⟨RX12, "keep", "(IZ)I"⟩
abbrev cX12_make : ByteArray := prog_14_method_18_code
def yX12_make : MethodName := ⟨RX12, "make", "(II)V"⟩
abbrev cX12_order : ByteArray := prog_14_method_19_code
def yX12_order : MethodName := ⟨RX12, "order", "(IIII)I"⟩
abbrev cX12_marks : ByteArray := prog_14_method_20_code
def yX12_marks : MethodName := ⟨RX12, "marks", "(IIII)I"⟩
abbrev cX12_isPrime : ByteArray := prog_14_method_21_code
def yX12_isPrime : MethodName := ⟨RX12, "isPrime", "(I)Z"⟩
abbrev cX12_isRoot : ByteArray := prog_14_method_22_code
def yX12_isRoot : MethodName := ⟨RX12, "isRoot", "(II)Z"⟩
abbrev cX12_power : ByteArray := prog_14_method_23_code
def yX12_power : MethodName := ⟨RX12, "power", "(III)I"⟩
abbrev cX12_powers : ByteArray := prog_14_method_24_code
def yX12_powers : MethodName := ⟨RX12, "powers", "(IIII)I"⟩
abbrev cX12_sums : ByteArray := prog_14_method_25_code
def yX12_sums : MethodName := ⟨RX12, "sums", "(IIII)I"⟩
abbrev cX12_refusal : ByteArray := prog_14_method_26_code
def yX12_refusal : MethodName := ⟨RX12, "refusal", "(II)I"⟩
abbrev cX12_take : ByteArray := prog_14_method_27_code
def yX12_take : MethodName := ⟨RX12, "take", "(III)I"⟩
abbrev cX12_put : ByteArray := prog_14_method_28_code
def yX12_put : MethodName := ⟨RX12, "put", "(III)I"⟩
abbrev cX12_turned : ByteArray := prog_14_method_29_code
def yX12_turned : MethodName := ⟨RX12, "turned", "(III)I"⟩
abbrev cX12_turned4 : ByteArray := prog_14_method_30_code
def yX12_turned4 : MethodName := ⟨RX12, "turned4", "(III)I"⟩
abbrev cX12_turn : ByteArray := prog_14_method_31_code
def yX12_turn : MethodName := ⟨RX12, "turn", "(III)I"⟩
abbrev cX12_first : ByteArray := prog_14_method_32_code
def yX12_first : MethodName := ⟨RX12, "first", "(I)V"⟩
abbrev cX12_next : ByteArray := prog_14_method_33_code
def yX12_next : MethodName := ⟨RX12, "next", "()Z"⟩
abbrev cX12_nth : ByteArray := prog_14_method_34_code
def yX12_nth : MethodName := ⟨RX12, "nth", "(III)I"⟩
abbrev cX12_clear : ByteArray := prog_14_method_35_code
def yX12_clear : MethodName := ⟨RX12, "clear", "(I)I"⟩
abbrev cX12_kind : ByteArray := prog_14_method_36_code
def yX12_kind : MethodName := ⟨RX12, "kind", "(I)I"⟩
abbrev cX12_is : ByteArray := prog_14_method_37_code
def yX12_is : MethodName := ⟨RX12, "is", "(II)I"⟩
abbrev cX12_as : ByteArray := prog_14_method_38_code
def yX12_as : MethodName := ⟨RX12, "as", "(II)I"⟩
abbrev cX12_begins : ByteArray := prog_14_method_39_code
def yX12_begins : MethodName := ⟨RX12, "begins", "(I)V"⟩
abbrev cX12_countMarks : ByteArray := prog_14_method_40_code
def yX12_countMarks : MethodName := ⟨RX12, "countMarks", "(I)I"⟩
abbrev cX12_sizeOf : ByteArray := prog_14_method_41_code
def yX12_sizeOf : MethodName := ⟨RX12, "sizeOf", "(I)I"⟩
abbrev cX12_mark : ByteArray := prog_14_method_42_code
def yX12_mark : MethodName := ⟨RX12, "mark", "(I)I"⟩
abbrev cX12_ask : ByteArray := prog_14_method_43_code
def yX12_ask : MethodName := ⟨RX12, "ask", "(II)I"⟩
abbrev cX12_trace : ByteArray := prog_14_method_44_code
def yX12_trace : MethodName := ⟨RX12, "trace", "(I)I"⟩
abbrev cX12_at : ByteArray := prog_14_method_45_code
def yX12_at : MethodName := ⟨RX12, "at", "(II)I"⟩
abbrev cX12_alike : ByteArray := prog_14_method_46_code
def yX12_alike : MethodName := ⟨RX12, "alike", "(II)I"⟩
abbrev cX12_meet : ByteArray := prog_14_method_47_code
def yX12_meet : MethodName := ⟨RX12, "meet", "(IIII)I"⟩
abbrev cX12_isMove : ByteArray := prog_14_method_48_code
def yX12_isMove : MethodName := ⟨RX12, "isMove", "(I)Z"⟩
abbrev cX12_meeting : ByteArray := prog_14_method_49_code
def yX12_meeting : MethodName := ⟨RX12, "meeting", "(IIII)I"⟩
abbrev cX12_greatest : ByteArray := prog_14_method_50_code
def yX12_greatest : MethodName := ⟨RX12, "greatest", "(IIZ)I"⟩
abbrev cX12_most : ByteArray := prog_14_method_51_code
def yX12_most : MethodName := ⟨RX12, "most", "(I)I"⟩
abbrev cX12_together : ByteArray := prog_14_method_52_code
def yX12_together : MethodName := ⟨RX12, "together", "(II)I"⟩
abbrev cX12_echo : ByteArray := prog_14_method_53_code
def yX12_echo : MethodName := ⟨RX12, "echo", "(IIIII)I"⟩
abbrev cX12_isLeast : ByteArray := prog_14_method_54_code
def yX12_isLeast : MethodName := ⟨RX12, "isLeast", "()Z"⟩
abbrev cX12_lonely : ByteArray := prog_14_method_55_code
def yX12_lonely : MethodName := ⟨RX12, "lonely", "(II)I"⟩
abbrev cX12_canBe : ByteArray := prog_14_method_56_code
def yX12_canBe : MethodName := ⟨RX12, "canBe", "(II)Z"⟩
abbrev cX12_shortest : ByteArray := prog_14_method_57_code
def yX12_shortest : MethodName := ⟨RX12, "shortest", "(I)I"⟩
abbrev cX12_count : ByteArray := prog_14_method_58_code
def yX12_count : MethodName := ⟨RX12, "count", "(I)I"⟩
abbrev cX12_status : ByteArray := prog_14_method_59_code
def yX12_status : MethodName := ⟨RX12, "status", "()I"⟩
def RJx8e188 : String := "java/lang/Cloneable"
def TJx8e188 : u_T := fun k => match k with
  | _ => ("", "", "", false)
def tyJx8e188 : Nat → FieldType := fun k => match k with
  | _ => .int
abbrev wsJx8e1880 : List Cond := u_ws RJx8e188 TJx8e188 0
theorem nmJx8e188 : ∀ a, a < 0 → ∀ b, b < 0 → a ≠ b → (TJx8e188 a).2.1 ≠ (TJx8e188 b).2.1 := by decide +kernel
theorem tyJx8e188_ok : ∀ k, k < 0 → parseFieldDescriptor (TJx8e188 k).2.2.1 = some (tyJx8e188 k) := by decide +kernel
def RJ9 : String := "java/lang/Math"
def TJ9 : u_T := fun k => match k with
  | _ => ("", "", "", false)
def tyJ9 : Nat → FieldType := fun k => match k with
  | _ => .int
abbrev wsJ90 : List Cond := u_ws RJ9 TJ9 0
theorem nmJ9 : ∀ a, a < 0 → ∀ b, b < 0 → a ≠ b → (TJ9 a).2.1 ≠ (TJ9 b).2.1 := by decide +kernel
theorem tyJ9_ok : ∀ k, k < 0 → parseFieldDescriptor (TJ9 k).2.2.1 = some (tyJ9 k) := by decide +kernel
abbrev cJ9_max_7cf53 : ByteArray := prog_16_method_65_code
def yJ9_max_7cf53 : MethodName := ⟨RJ9, "max", "(II)I"⟩
abbrev cJ9_min_7cf53 : ByteArray := prog_16_method_69_code
def yJ9_min_7cf53 : MethodName := ⟨RJ9, "min", "(II)I"⟩
def RJ10 : String := "java/lang/System"
def TJ10 : u_T := fun k => match k with
  | _ => ("", "", "", false)
def tyJ10 : Nat → FieldType := fun k => match k with
  | _ => .int
abbrev wsJ100 : List Cond := u_ws RJ10 TJ10 0
theorem nmJ10 : ∀ a, a < 0 → ∀ b, b < 0 → a ≠ b → (TJ10 a).2.1 ≠ (TJ10 b).2.1 := by decide +kernel
theorem tyJ10_ok : ∀ k, k < 0 → parseFieldDescriptor (TJ10 k).2.2.1 = some (tyJ10 k) := by decide +kernel
def RJ7 : String := "java/util/Arrays"
def TJ7 : u_T := fun k => match k with
  | _ => ("", "", "", false)
def tyJ7 : Nat → FieldType := fun k => match k with
  | _ => .int
abbrev wsJ70 : List Cond := u_ws RJ7 TJ7 0
theorem nmJ7 : ∀ a, a < 0 → ∀ b, b < 0 → a ≠ b → (TJ7 a).2.1 ≠ (TJ7 b).2.1 := by decide +kernel
theorem tyJ7_ok : ∀ k, k < 0 → parseFieldDescriptor (TJ7 k).2.2.1 = some (tyJ7 k) := by decide +kernel
abbrev cJ7_fill_53178 : ByteArray := prog_18_method_103_code
def yJ7_fill_53178 : MethodName := ⟨RJ7, "fill", "([II)V"⟩
abbrev cJ7_checkLength_df160 : ByteArray := prog_18_method_131_code
def yJ7_checkLength_df160 : MethodName := ⟨RJ7, "checkLength", "(II)V"⟩
abbrev cJ7_copyOfRange_feecc : ByteArray := prog_18_method_136_code
def yJ7_copyOfRange_feecc : MethodName := ⟨RJ7, "copyOfRange", "([III)[I"⟩
abbrev cJ7_copyOfRangeInt_feecc : ByteArray := prog_18_method_137_code
def yJ7_copyOfRangeInt_feecc : MethodName := ⟨RJ7, "copyOfRangeInt", "([III)[I"⟩
def RL : String := "LonelyDotsLaw"
abbrev cL_law : ByteArray := code
def yL_law : MethodName := ⟨RL, "law", "([I)Z"⟩
abbrev vwCl : List vw_C := [(RX0, TX0, 1), (RX1, TX1, 5), (RX2, TX2, 1), (RX3, TX3, 2), (RX4, TX4, 1), (RX5, TX5, 1), (RX6, TX6, 1), (RX7, TX7, 4), (RX8, TX8, 4), (RX10, TX10, 2), (RX11, TX11, 7), (RX12, TX12, 17)]
/-- private methods of an abstract class, on objects of the classes below it -/
def lk_sx : List Cond := [.selects RX0 yX9_laterFirst yX9_laterFirst, .selects RX2 yX9_laterFirst yX9_laterFirst, .selects RX4 yX9_laterFirst yX9_laterFirst, .selects RX5 yX9_laterFirst yX9_laterFirst, .selects RX6 yX9_laterFirst yX9_laterFirst, .selects RX0 yX9_partOfPairs yX9_partOfPairs, .selects RX2 yX9_partOfPairs yX9_partOfPairs, .selects RX4 yX9_partOfPairs yX9_partOfPairs, .selects RX5 yX9_partOfPairs yX9_partOfPairs, .selects RX6 yX9_partOfPairs yX9_partOfPairs]
/-- the words of the tables, and those -/
def lk_tbl : List Cond := lk_sx ++ lw_tbl
abbrev lk_tyl : List (Nat → FieldType) := [tyX0, tyX1, tyX2, tyX3, tyX4, tyX5, tyX6, tyX7, tyX8, tyX10, tyX11, tyX12]
abbrev lk_df : List (List Value) := [[.null], [.null, .null, .null, .int 0, .int 0], [.null], [.null, .null], [.null], [.null], [.null], [.null, .null, .null, .int 0], [.null, .int 0, .int 0, .int 0], [.null, .int 0], [.null, .null, .null, .null, .null, .null, .int 0], [.null, .null, .null, .null, .null, .null, .null, .int 0, .null, .int 0, .null, .null, .null, .null, .int 0, .null, .null]]
/-- pairs of classes (by number) of which the first is not castable to the second -/
abbrev lk_nc : List (Nat × Nat) := [(2, 4), (5, 4), (6, 4), (4, 0), (2, 0), (5, 0), (6, 0), (4, 2), (0, 2), (4, 6), (0, 6), (2, 6), (4, 5), (0, 5), (2, 5), (6, 5)]
/-- the classes of arrays: 0 ints, 1 booleans, then of objects -/
def lk_tgC : Nat → String := fun k => match k with
  | 2 => RX8
  | 3 => RX9
  | _ => RX1
def lk_tgT : Nat → FieldType := fun k => match k with
  | 0 => .int
  | 1 => .boolean
  | k => .object (lk_tgC k)
/-- which classes an array of objects takes: its own, or such as are castable to it -/
abbrev lk_thg : List Nat := [0, 2, 4, 5, 6]
def lk_cm (t c : Nat) : Bool := match t with
  | 2 => c == 8
  | 4 => c == 1
  | 3 => lk_thg.contains c
  | _ => false
theorem lk_in0 : ∀ w ∈ u_ws RX0 TX0 1, w ∈ lk_tbl := by decide +kernel
theorem lk_in1 : ∀ w ∈ u_ws RX1 TX1 5, w ∈ lk_tbl := by decide +kernel
theorem lk_in2 : ∀ w ∈ u_ws RX2 TX2 1, w ∈ lk_tbl := by decide +kernel
theorem lk_in3 : ∀ w ∈ u_ws RX3 TX3 2, w ∈ lk_tbl := by decide +kernel
theorem lk_in4 : ∀ w ∈ u_ws RX4 TX4 1, w ∈ lk_tbl := by decide +kernel
theorem lk_in5 : ∀ w ∈ u_ws RX5 TX5 1, w ∈ lk_tbl := by decide +kernel
theorem lk_in6 : ∀ w ∈ u_ws RX6 TX6 1, w ∈ lk_tbl := by decide +kernel
theorem lk_in7 : ∀ w ∈ u_ws RX7 TX7 4, w ∈ lk_tbl := by decide +kernel
theorem lk_in8 : ∀ w ∈ u_ws RX8 TX8 4, w ∈ lk_tbl := by decide +kernel
theorem lk_in9 : ∀ w ∈ u_ws RX10 TX10 2, w ∈ lk_tbl := by decide +kernel
theorem lk_in10 : ∀ w ∈ u_ws RX11 TX11 7, w ∈ lk_tbl := by decide +kernel
theorem lk_in11 : ∀ w ∈ u_ws RX12 TX12 17, w ∈ lk_tbl := by decide +kernel
/-- of every class: its fields stand in the tables, their types, their names, what they are at first -/
theorem lk_all {ci : Nat} {q : vw_C} (hc : vwCl[ci]? = some q) : (∀ w ∈ u_ws q.1 q.2.1 q.2.2, w ∈ lk_tbl) ∧ ∃ ty fs, lk_tyl[ci]? = some ty ∧ lk_df[ci]? = some fs ∧ fs.length = q.2.2 ∧ (∀ k, k < q.2.2 → parseFieldDescriptor (q.2.1 k).2.2.1 = some (ty k)) ∧ (∀ a, a < q.2.2 → ∀ b, b < q.2.2 → a ≠ b → (q.2.1 a).2.1 ≠ (q.2.1 b).2.1) ∧ (∀ j, j < q.2.2 → defaultValue (ty j) = vp_V fs j) ∧ ∀ v ∈ fs, v = .null ∨ v = .int 0 := by
  match ci, hc with
  | 0, hc => cases hc; exact ⟨lk_in0, _, _, rfl, rfl, rfl, tyX0_ok, nmX0, by decide +kernel, by decide +kernel⟩
  | 1, hc => cases hc; exact ⟨lk_in1, _, _, rfl, rfl, rfl, tyX1_ok, nmX1, by decide +kernel, by decide +kernel⟩
  | 2, hc => cases hc; exact ⟨lk_in2, _, _, rfl, rfl, rfl, tyX2_ok, nmX2, by decide +kernel, by decide +kernel⟩
  | 3, hc => cases hc; exact ⟨lk_in3, _, _, rfl, rfl, rfl, tyX3_ok, nmX3, by decide +kernel, by decide +kernel⟩
  | 4, hc => cases hc; exact ⟨lk_in4, _, _, rfl, rfl, rfl, tyX4_ok, nmX4, by decide +kernel, by decide +kernel⟩
  | 5, hc => cases hc; exact ⟨lk_in5, _, _, rfl, rfl, rfl, tyX5_ok, nmX5, by decide +kernel, by decide +kernel⟩
  | 6, hc => cases hc; exact ⟨lk_in6, _, _, rfl, rfl, rfl, tyX6_ok, nmX6, by decide +kernel, by decide +kernel⟩
  | 7, hc => cases hc; exact ⟨lk_in7, _, _, rfl, rfl, rfl, tyX7_ok, nmX7, by decide +kernel, by decide +kernel⟩
  | 8, hc => cases hc; exact ⟨lk_in8, _, _, rfl, rfl, rfl, tyX8_ok, nmX8, by decide +kernel, by decide +kernel⟩
  | 9, hc => cases hc; exact ⟨lk_in9, _, _, rfl, rfl, rfl, tyX10_ok, nmX10, by decide +kernel, by decide +kernel⟩
  | 10, hc => cases hc; exact ⟨lk_in10, _, _, rfl, rfl, rfl, tyX11_ok, nmX11, by decide +kernel, by decide +kernel⟩
  | 11, hc => cases hc; exact ⟨lk_in11, _, _, rfl, rfl, rfl, tyX12_ok, nmX12, by decide +kernel, by decide +kernel⟩
  | k + 12, hc => simp [vwCl] at hc
theorem lk_thg_ok : ∀ k ∈ lk_thg, Cond.castable (match vwCl[k]? with | some q => q.1 | none => "") (lk_tgC 3) ∈ lk_tbl := by decide +kernel
end
section
/-! THE SMALL MACHINE: frames and a heap of numbered cells, as a plain function; later shown to be followed by the machine -/
abbrev lk_H : Type := List va_E
abbrev lk_I : Type := Nat × List (Nat × Nat) × Value
abbrev lk_X : Type := Nat × (Nat → Int32)
/-- a value of the small machine as one of the machine: cell k lies at b + k; retAddr stands for the script, at z -/
def lk_sv (b z : Nat) : Value → Value
  | .ref a => .ref (b + a)
  | .retAddr _ => .ref z
  | v => v
def lk_sa (b : Nat) (x : vp_A) : vp_A := (x.1, match x.2 with
  | .inr (.inr (.inr (.inr f))) => .inr (.inr (.inr (.inr (fun k => (f k).map (fun a => b + a)))))
  | y => y)
def lk_se (b z : Nat) (aC : Nat → ClassId) : va_E → va_E
  | .inl a => .inl (aC a.1, lk_sa b a.2)
  | .inr o => .inr (o.1, o.2.map (lk_sv b z))
def lk_ws (b z : Nat) (aC : Nat → ClassId) (h : lk_H) : va_W := h.mapIdx (fun k c => (b + k, lk_se b z aC c))
section LKW
variable {b z : Nat} {aC : Nat → ClassId}
theorem lk_ws_get (h : lk_H) (k : Nat) : (lk_ws b z aC h)[k]? = (h[k]?).map (fun c => (b + k, lk_se b z aC c)) := by
  unfold lk_ws
  rw [List.getElem?_mapIdx]
theorem lk_ws_at {h : lk_H} {k : Nat} {c : va_E} (hk : h[k]? = some c) : (lk_ws b z aC h)[k]? = some (b + k, lk_se b z aC c) := by
  rw [lk_ws_get, hk]; rfl
theorem lk_ws_length (h : lk_H) : (lk_ws b z aC h).length = h.length := by
  unfold lk_ws; simp
theorem lk_ws_set (h : lk_H) (k : Nat) (c : va_E) : lk_ws b z aC (h.set k c) = (lk_ws b z aC h).set k (b + k, lk_se b z aC c) := by
  apply List.ext_getElem?
  intro i
  rw [lk_ws_get, List.getElem?_set, List.getElem?_set, lk_ws_length, lk_ws_get]
  by_cases hi : k = i
  · subst hi
    by_cases hl : k < h.length
    · simp [hl]
    · simp [hl]
  · simp [hi]
theorem lk_ws_app (h : lk_H) (c : va_E) : lk_ws b z aC (h ++ [c]) = lk_ws b z aC h ++ [(b + h.length, lk_se b z aC c)] := by
  unfold lk_ws
  simp [List.mapIdx_append]
theorem lk_ws_inv {h : lk_H} {k : Nat} {q : Nat × va_E} (hk : (lk_ws b z aC h)[k]? = some q) : ∃ c, h[k]? = some c ∧ q = (b + k, lk_se b z aC c) := by
  rw [lk_ws_get] at hk
  cases hc : h[k]? with
  | none => rw [hc] at hk; cases hk
  | some c => rw [hc] at hk; exact ⟨c, rfl, (Option.some.inj hk).symm⟩
theorem lk_ws_D (h : lk_H) : va_D (fun q : Nat => b ≤ q) (lk_ws b z aC h) := by
  refine ⟨fun i j p q hi hj hpq => ?_, fun k q hk => ?_⟩
  · obtain ⟨c, -, rfl⟩ := lk_ws_inv hi
    obtain ⟨d, -, rfl⟩ := lk_ws_inv hj
    dsimp only at hpq
    omega
  · obtain ⟨c, -, rfl⟩ := lk_ws_inv hk
    dsimp only
    omega
end LKW
/-! locals: a list of values, retAddr 0 where nothing is known -/
def lk_v : Value → Bool
  | .retAddr 0 => false
  | _ => true
def lk_L (b z : Nat) (ls : Array Slot) (lo : List Value) : Prop := ls.size = lo.length ∧ lv_wf ls ∧ ∀ (k : Nat) (v : Value), lo[k]? = some v → lk_v v = true → ls[k]? = some (.val (lk_sv b z v))
def lk_al (b z : Nat) (lo : List Value) : List (Nat × Value) := (List.range lo.length).filterMap fun k => match lo[k]? with
  | some v => if lk_v v = true then some (k, lk_sv b z v) else none
  | none => none
/-- is a value of two slots just ahead of place i -/
def lk_pl (lo : List Value) (i : Nat) : Bool := match i with
  | 0 => false
  | k + 1 => match lo[k]? with
    | some v => v.category == 2
    | none => false
/-- such a value is gone once place i is written -/
def lk_clr (lo : List Value) (i : Nat) : List Value := if lk_pl lo i = true then lo.set (i - 1) (.retAddr 0) else lo
def lk_set (lo : List Value) (i : Nat) (v : Value) : Option (List Value) := if i < lo.length then some ((lk_clr lo i).set i v) else none
def lk_set2 (lo : List Value) (i : Nat) (v : Value) : Option (List Value) := if i + 1 < lo.length then some (((lk_clr lo i).set i v).set (i + 1) (.retAddr 0)) else none
theorem lk_clr_len (lo : List Value) (i : Nat) : (lk_clr lo i).length = lo.length := by
  unfold lk_clr
  split
  · exact List.length_set
  · rfl
theorem lk_clr_at {lo : List Value} {i k : Nat} {w : Value} (hk : (lk_clr lo i)[k]? = some w) (hw : lk_v w = true) : lo[k]? = some w ∧ (k + 1 = i → ¬ w.category = 2) := by
  unfold lk_clr at hk
  by_cases hp : lk_pl lo i = true
  · rw [if_pos hp, List.getElem?_set] at hk
    by_cases h1 : i - 1 = k
    · rw [if_pos h1] at hk
      split at hk
      · cases hk; cases hw
      · cases hk
    · rw [if_neg h1] at hk
      exact ⟨hk, fun h2 => absurd (by omega) h1⟩
  · rw [if_neg hp] at hk
    refine ⟨hk, fun h2 hc => hp ?_⟩
    subst h2
    simp only [lk_pl, hk]
    exact beq_iff_eq.mpr hc
theorem lk_al_mem {b z : Nat} {lo : List Value} {k : Nat} {v : Value} (h : lo[k]? = some v) (hv : lk_v v = true) : (k, lk_sv b z v) ∈ lk_al b z lo := by
  unfold lk_al
  refine List.mem_filterMap.mpr ⟨k, List.mem_range.mpr (List.getElem?_eq_some_iff.mp h).1, ?_⟩
  rw [h]
  simp [hv]
theorem lk_al_inv {b z : Nat} {lo : List Value} {q : Nat × Value} (h : q ∈ lk_al b z lo) : ∃ v, lo[q.1]? = some v ∧ lk_v v = true ∧ q.2 = lk_sv b z v := by
  unfold lk_al at h
  obtain ⟨k, -, hk⟩ := List.mem_filterMap.mp h
  cases hc : lo[k]? with
  | none => rw [hc] at hk; cases hk
  | some v =>
    rw [hc] at hk
    by_cases hv : lk_v v = true
    · simp only [hv, if_true] at hk
      cases hk
      exact ⟨v, hc, hv, rfl⟩
    · simp only [hv] at hk
      cases hk
theorem lk_L.has {b z : Nat} {ls : Array Slot} {lo : List Value} (h : lk_L b z ls lo) : lv_has ls lo.length (lk_al b z lo) := by
  refine ⟨h.1, h.2.1, fun q hq => ?_⟩
  obtain ⟨v, h1, h2, h3⟩ := lk_al_inv hq
  rw [h3]
  exact h.2.2 q.1 v h1 h2
theorem lk_L.at {b z : Nat} {ls : Array Slot} {lo : List Value} (h : lk_L b z ls lo) {k : Nat} {v : Value} (hk : lo[k]? = some v) (hv : lk_v v = true) : ls[k]? = some (.val (lk_sv b z v)) := h.2.2 k v hk hv
theorem lk_sv_cat (b z : Nat) (v : Value) : (lk_sv b z v).category = v.category := by cases v <;> rfl
theorem lk_L.set {b z : Nat} {ls' : Array Slot} {lo lo' : List Value} {i : Nat} {v : Value} (h : lk_set lo i v = some lo')
    (h' : lv_has ls' lo.length ((i, lk_sv b z v) :: (lk_al b z lo).filter (fun q => !(q.1 == i) && !(q.1 + 1 == i && q.2.category == 2)))) : lk_L b z ls' lo' := by
  unfold lk_set at h
  by_cases hi : i < lo.length
  · rw [if_pos hi] at h
    cases h
    refine ⟨by rw [List.length_set, lk_clr_len]; exact h'.1, h'.2.1, fun k w hk hw => ?_⟩
    rw [List.getElem?_set, lk_clr_len] at hk
    by_cases hki : i = k
    · subst hki
      rw [if_pos rfl, if_pos hi] at hk
      cases hk
      exact h'.2.2 (i, lk_sv b z v) List.mem_cons_self
    · rw [if_neg hki] at hk
      obtain ⟨h1, h2⟩ := lk_clr_at hk hw
      refine h'.2.2 (k, lk_sv b z w) (List.mem_cons_of_mem _ (List.mem_filter.mpr ⟨lk_al_mem h1 hw, ?_⟩))
      have e1 : (k == i) = false := by simp; omega
      simp only [e1, Bool.not_false, Bool.true_and]
      by_cases e2 : k + 1 = i
      · have := h2 e2
        simp [lk_sv_cat, this]
      · simp [e2]
  · rw [if_neg hi] at h; cases h
theorem lk_L.set2 {b z : Nat} {ls' : Array Slot} {lo lo' : List Value} {i : Nat} {v : Value} (h : lk_set2 lo i v = some lo')
    (h' : lv_has ls' lo.length ((i, lk_sv b z v) :: (lk_al b z lo).filter (fun q => !(q.1 == i) && (!(q.1 == i + 1) && !(q.1 + 1 == i && q.2.category == 2))))) : lk_L b z ls' lo' := by
  unfold lk_set2 at h
  by_cases hi : i + 1 < lo.length
  · rw [if_pos hi] at h
    cases h
    refine ⟨by rw [List.length_set, List.length_set, lk_clr_len]; exact h'.1, h'.2.1, fun k w hk hw => ?_⟩
    rw [List.getElem?_set, List.length_set, lk_clr_len] at hk
    by_cases hk1 : i + 1 = k
    · subst hk1
      rw [if_pos rfl, if_pos hi] at hk
      cases hk
      cases hw
    · rw [if_neg hk1, List.getElem?_set, lk_clr_len] at hk
      by_cases hki : i = k
      · subst hki
        rw [if_pos rfl, if_pos (by omega)] at hk
        cases hk
        exact h'.2.2 (i, lk_sv b z v) List.mem_cons_self
      · rw [if_neg hki] at hk
        obtain ⟨h1, h2⟩ := lk_clr_at hk hw
        refine h'.2.2 (k, lk_sv b z w) (List.mem_cons_of_mem _ (List.mem_filter.mpr ⟨lk_al_mem h1 hw, ?_⟩))
        have e1 : (k == i) = false := by simp; omega
        have e3 : (k == i + 1) = false := by simp; omega
        simp only [e1, e3, Bool.not_false, Bool.true_and]
        by_cases e2 : k + 1 = i
        · have := h2 e2
          simp [lk_sv_cat, this]
        · simp [e2]
  · rw [if_neg hi] at h; cases h
/-! the locals at a method's entry -/
def lk_ex : List Value → List Value
  | [] => []
  | v :: vs => match v with
    | .long x => .long x :: .retAddr 0 :: lk_ex vs
    | .double x => .double x :: .retAddr 0 :: lk_ex vs
    | v => v :: lk_ex vs
def lk_ent (n : Nat) (vs : List Value) : List Value := lk_ex vs ++ List.replicate (n - (lk_ex vs).length) (.retAddr 0)
theorem lk_ex_sl (b z : Nat) (vs : List Value) : (lg_sl (vs.map (lk_sv b z))).length = (lk_ex vs).length := by
  induction vs with
  | nil => rfl
  | cons v t ih => cases v <;> simp_all [lg_sl, lk_sv, lk_ex, Value.category]
theorem lk_ex_args (b z : Nat) (vs : List Value) : ∀ (i : Nat) (pre : List Value), pre.length = i → ∀ (k : Nat) (v : Value), i ≤ k → (pre ++ lk_ex vs)[k]? = some v → lk_v v = true → (k, lk_sv b z v) ∈ lv_args i (vs.map (lk_sv b z)) := by
  induction vs with
  | nil =>
    intro i pre hi k v hk h
    simp only [lk_ex, List.append_nil] at h
    have := (List.getElem?_eq_some_iff.mp h).1
    omega
  | cons w t ih =>
    intro i pre hi k v hk h hv
    have key : ∀ (u : Value), lk_ex (u :: t) = u :: lk_ex t → u.category = 1 → (pre ++ lk_ex (u :: t))[k]? = some v → (k, lk_sv b z v) ∈ lv_args i ((u :: t).map (lk_sv b z)) := by
      intro u hu hc h
      rw [hu] at h
      simp only [List.map_cons, lv_args]
      by_cases hki : k = i
      · subst hki
        rw [List.getElem?_append_right (by omega), hi, Nat.sub_self] at h
        cases h
        exact List.mem_cons_self
      · refine List.mem_cons_of_mem _ ?_
        rw [lk_sv_cat, hc, if_neg (by decide)]
        refine ih (i + 1) (pre ++ [u]) (by simp [hi]) k v (by omega) ?_ hv
        rw [List.append_assoc]
        exact h
    have key2 : ∀ (u : Value), lk_ex (u :: t) = u :: .retAddr 0 :: lk_ex t → u.category = 2 → (pre ++ lk_ex (u :: t))[k]? = some v → (k, lk_sv b z v) ∈ lv_args i ((u :: t).map (lk_sv b z)) := by
      intro u hu hc h
      rw [hu] at h
      simp only [List.map_cons, lv_args]
      by_cases hki : k = i
      · subst hki
        rw [List.getElem?_append_right (by omega), hi, Nat.sub_self] at h
        cases h
        exact List.mem_cons_self
      · refine List.mem_cons_of_mem _ ?_
        rw [lk_sv_cat, hc, if_pos rfl]
        by_cases hk1 : k = i + 1
        · subst hk1
          rw [List.getElem?_append_right (by omega), hi, show i + 1 - i = 1 by omega] at h
          cases h
          cases hv
        · refine ih (i + 2) (pre ++ [u, .retAddr 0]) (by simp [hi]) k v (by omega) ?_ hv
          rw [List.append_assoc]
          exact h
    cases w with
    | int x => exact key _ rfl rfl h
    | long x => exact key2 _ rfl rfl h
    | float x => exact key _ rfl rfl h
    | double x => exact key2 _ rfl rfl h
    | null => exact key _ rfl rfl h
    | ref x => exact key _ rfl rfl h
    | retAddr x => exact key _ rfl rfl h
theorem lk_L.entry (b z n : Nat) (vs : List Value) (h : (lk_ex vs).length ≤ n) : lk_L b z ((lg_sl (vs.map (lk_sv b z)) ++ List.replicate (n - (lg_sl (vs.map (lk_sv b z))).length) Slot.unset).toArray) (lk_ent n vs) := by
  have h1 := lv_entry (vs.map (lk_sv b z)) (n := n) (by rw [lk_ex_sl]; exact h)
  refine ⟨?_, h1.2.1, fun k v hk hv => ?_⟩
  · rw [h1.1]
    unfold lk_ent
    rw [List.length_append, List.length_replicate]
    omega
  · refine h1.2.2 (k, lk_sv b z v) ?_
    refine lk_ex_args b z vs 0 [] rfl k v (Nat.zero_le _) ?_ hv
    rw [List.nil_append]
    unfold lk_ent at hk
    by_cases hl : k < (lk_ex vs).length
    · rw [List.getElem?_append_left hl] at hk
      exact hk
    · rw [List.getElem?_append_right (by omega)] at hk
      have this := List.eq_of_mem_replicate (List.mem_of_getElem? hk)
      subst this
      cases hv
end
section
/-! one instruction of the small machine that is no call and no return -/
def lk_cd (c : Jvm.ClassFile.Cond) (x y : Int32) : Prop := match c with
  | .eq => x = y
  | .ne => ¬ x = y
  | .lt => x < y
  | .ge => y ≤ x
  | .gt => y < x
  | .le => x ≤ y
def lk_sw : List (Nat × Nat) → Nat → Int32 → Nat
  | [], d, _ => d
  | q :: r, d, x => if x = Int32.ofNat q.1 then q.2 else lk_sw r d x
/-- does a value fit a field of that type as it is -/
def lk_fit (ty : Option FieldType) (v : Value) : Bool := match ty, v with
  | some .int, .int _ => true
  | some .boolean, .int x => x == 0 || x == 1
  | some (.object _), .ref _ => true
  | some (.object _), .null => true
  | some (.array _), .ref _ => true
  | some (.array _), .null => true
  | _, _ => false
def lk_has (l : List (Nat × Nat)) (c : Nat) : Bool := l.any (fun q => q.1 == c)
def lk_find (l : List (Nat × Nat)) (c : Nat) : Option Nat := (l.find? (fun q => q.1 == c)).map (fun q => q.2)
abbrev lk_S : Type := Nat × List Value × List Value × lk_H
noncomputable def lk_if (c : Jvm.ClassFile.Cond) (x y : Int32) (a b : Option lk_S) : Option lk_S := match c with
  | .eq => if x = y then a else b
  | .ne => if ¬ x = y then a else b
  | .lt => if x < y then a else b
  | .ge => if y ≤ x then a else b
  | .gt => if y < x then a else b
  | .le => if x ≤ y then a else b
def lk_ldi (lo : List Value) (i pc : Nat) (st : List Value) (h : lk_H) : Option lk_S := match lo[i]? with
  | some (.int x) => some (pc, lo, .int x :: st, h)
  | _ => none
def lk_ldl (lo : List Value) (i pc : Nat) (st : List Value) (h : lk_H) : Option lk_S := match lo[i]? with
  | some (.long x) => some (pc, lo, .long x :: st, h)
  | _ => none
def lk_lda (lo : List Value) (i pc : Nat) (st : List Value) (h : lk_H) : Option lk_S := match lo[i]? with
  | some (.ref x) => some (pc, lo, .ref x :: st, h)
  | some .null => some (pc, lo, .null :: st, h)
  | some (.retAddr (n + 1)) => some (pc, lo, .retAddr (n + 1) :: st, h)
  | _ => none
def lk_sti (lo : List Value) (i pc : Nat) (st : List Value) (h : lk_H) : Option lk_S := match st with
  | .int x :: r => (lk_set lo i (.int x)).map (fun lo' => (pc, lo', r, h))
  | _ => none
def lk_sta (lo : List Value) (i pc : Nat) (st : List Value) (h : lk_H) : Option lk_S := match st with
  | .ref x :: r => (lk_set lo i (.ref x)).map (fun lo' => (pc, lo', r, h))
  | .null :: r => (lk_set lo i .null).map (fun lo' => (pc, lo', r, h))
  | _ => none
def lk_stl (lo : List Value) (i pc : Nat) (st : List Value) (h : lk_H) : Option lk_S := match st with
  | .long x :: r => (lk_set2 lo i (.long x)).map (fun lo' => (pc, lo', r, h))
  | _ => none
def lk_inc (lo : List Value) (i pc : Nat) (c : Value) (st : List Value) (h : lk_H) : Option lk_S := match lo[i]? with
  | some (.int x) => match c with
    | .int y => (lk_set lo i (.int (x + y))).map (fun lo' => (pc, lo', st, h))
    | _ => none
  | _ => none
/-- of two ints on the stack -/
def lk_ii (f : Int32 → Int32 → Option Value) (pc : Nat) (lo st : List Value) (h : lk_H) : Option lk_S := match st with
  | .int y :: .int x :: r => (f x y).map (fun v => (pc + 1, lo, v :: r, h))
  | _ => none
def lk_ll (f : Int64 → Int64 → Option Value) (pc : Nat) (lo st : List Value) (h : lk_H) : Option lk_S := match st with
  | .long y :: .long x :: r => (f x y).map (fun v => (pc + 1, lo, v :: r, h))
  | _ => none
def lk_i1 (f : Int32 → Value) (pc : Nat) (lo st : List Value) (h : lk_H) : Option lk_S := match st with
  | .int x :: r => some (pc + 1, lo, f x :: r, h)
  | _ => none
noncomputable def lk_aldi (X : lk_X) (pc : Nat) (lo st : List Value) (h : lk_H) : Option lk_S := match st with
  | .int i :: .ref a :: r => match h[a]? with
    | some (.inl (0, (n, .inl f))) => if i < 0 ∨ n ≤ i.toNatClampNeg then none else some (pc + 1, lo, .int (f i.toNatClampNeg) :: r, h)
    | _ => none
  | .int i :: .retAddr _ :: r => if i < 0 ∨ X.1 ≤ i.toNatClampNeg then none else some (pc + 1, lo, .int (X.2 i.toNatClampNeg) :: r, h)
  | _ => none
noncomputable def lk_asti (pc : Nat) (lo st : List Value) (h : lk_H) : Option lk_S := match st with
  | .int x :: .int i :: .ref a :: r => match h[a]? with
    | some (.inl (0, (n, .inl f))) => if i < 0 ∨ n ≤ i.toNatClampNeg then none else some (pc + 1, lo, r, h.set a (.inl (0, (n, .inl (upd f i.toNatClampNeg x)))))
    | _ => none
  | _ => none
noncomputable def lk_aldz (pc : Nat) (lo st : List Value) (h : lk_H) : Option lk_S := match st with
  | .int i :: .ref a :: r => match h[a]? with
    | some (.inl (1, (n, .inl f))) => if i < 0 ∨ n ≤ i.toNatClampNeg then none else some (pc + 1, lo, .int (f i.toNatClampNeg) :: r, h)
    | _ => none
  | _ => none
noncomputable def lk_astz (pc : Nat) (lo st : List Value) (h : lk_H) : Option lk_S := match st with
  | .int x :: .int i :: .ref a :: r => match h[a]? with
    | some (.inl (1, (n, .inl f))) => if i < 0 ∨ n ≤ i.toNatClampNeg then none else some (pc + 1, lo, r, h.set a (.inl (1, (n, .inl (upd f i.toNatClampNeg (vp_nar .boolean x))))))
    | _ => none
  | _ => none
noncomputable def lk_alda (pc : Nat) (lo st : List Value) (h : lk_H) : Option lk_S := match st with
  | .int i :: .ref a :: r => match h[a]? with
    | some (.inl (t, (n, .inr (.inr (.inr (.inr f)))))) => if i < 0 ∨ n ≤ i.toNatClampNeg then none else if 2 ≤ t ∧ t ≤ 4 then some (pc + 1, lo, va_rf (f i.toNatClampNeg) :: r, h) else none
    | _ => none
  | _ => none
noncomputable def lk_asta (pc : Nat) (lo st : List Value) (h : lk_H) : Option lk_S := match st with
  | .ref v :: .int i :: .ref a :: r => match h[a]? with
    | some (.inl (t, (n, .inr (.inr (.inr (.inr f)))))) => if i < 0 ∨ n ≤ i.toNatClampNeg then none else match h[v]? with
      | some (.inr (c, _)) => if lk_cm t c = true then some (pc + 1, lo, r, h.set a (.inl (t, (n, .inr (.inr (.inr (.inr (va_up f i.toNatClampNeg (some v))))))))) else none
      | _ => none
    | _ => none
  | .null :: .int i :: .ref a :: r => match h[a]? with
    | some (.inl (t, (n, .inr (.inr (.inr (.inr f)))))) => if i < 0 ∨ n ≤ i.toNatClampNeg then none else if 2 ≤ t ∧ t ≤ 4 then some (pc + 1, lo, r, h.set a (.inl (t, (n, .inr (.inr (.inr (.inr (va_up f i.toNatClampNeg none)))))))) else none
    | _ => none
  | _ => none
def lk_len (X : lk_X) (pc : Nat) (lo st : List Value) (h : lk_H) : Option lk_S := match st with
  | .ref a :: r => match h[a]? with
    | some (.inl (t, x)) => if t ≤ 4 then some (pc + 1, lo, .int (Int32.ofNat x.1) :: r, h) else none
    | _ => none
  | .retAddr _ :: r => some (pc + 1, lo, .int (Int32.ofNat X.1) :: r, h)
  | _ => none
def lk_getf (inf : lk_I) (pc : Nat) (lo st : List Value) (h : lk_H) : Option lk_S := match st with
  | .ref a :: r => match h[a]? with
    | some (.inr (c, fs)) => if lk_has inf.2.1 c = true then (fs[inf.1]?).map (fun v => (pc + 3, lo, v :: r, h)) else none
    | _ => none
  | _ => none
def lk_putf (inf : lk_I) (pc : Nat) (lo st : List Value) (h : lk_H) : Option lk_S := match st with
  | v :: .ref a :: r => match h[a]? with
    | some (.inr (c, fs)) => if lk_has inf.2.1 c = true then (if lk_fit ((lk_tyl[c]?).map (fun t => t inf.1)) v = true then (if inf.1 < fs.length then some (pc + 3, lo, r, h.set a (.inr (c, fs.set inf.1 v))) else none) else none) else none
    | _ => none
  | _ => none
noncomputable def lk_newa (t : Nat) (pc : Nat) (lo st : List Value) (h : lk_H) : Option lk_S := match st with
  | .int n :: r => if n < 0 ∨ 65536 < n.toNatClampNeg then none else some (pc + 2, lo, .ref h.length :: r, h ++ [.inl (t, (n.toNatClampNeg, .inl (fun _ => 0)))])
  | _ => none
noncomputable def lk_newq (t : Nat) (pc : Nat) (lo st : List Value) (h : lk_H) : Option lk_S := match st with
  | .int n :: r => if n < 0 ∨ 65536 < n.toNatClampNeg then none else if 2 ≤ t ∧ t ≤ 4 then some (pc + 3, lo, .ref h.length :: r, h ++ [.inl (t, (n.toNatClampNeg, .inr (.inr (.inr (.inr (fun _ => none))))))]) else none
  | _ => none
def lk_new (c : Nat) (pc : Nat) (lo st : List Value) (h : lk_H) : Option lk_S := match lk_df[c]? with
  | some fs => some (pc + 3, lo, .ref h.length :: st, h ++ [.inr (c, fs)])
  | none => none
/-- instanceof: the list says of each class 1 or 0 -/
def lk_inst (inf : lk_I) (pc : Nat) (lo st : List Value) (h : lk_H) : Option lk_S := match st with
  | .ref a :: r => match h[a]? with
    | some (.inr (c, _)) => match lk_find inf.2.1 c with
      | some 1 => some (pc + 3, lo, .int 1 :: r, h)
      | some 0 => some (pc + 3, lo, .int 0 :: r, h)
      | _ => none
    | _ => none
  | .null :: r => some (pc + 3, lo, .int 0 :: r, h)
  | _ => none
def lk_cast (inf : lk_I) (pc : Nat) (lo st : List Value) (h : lk_H) : Option lk_S := match st with
  | .ref a :: r => match h[a]? with
    | some (.inr (c, _)) => match lk_find inf.2.1 c with
      | some 1 => some (pc + 3, lo, .ref a :: r, h)
      | _ => none
    | _ => none
  | .null :: r => some (pc + 3, lo, .null :: r, h)
  | _ => none
/-- Object.<init>: number 100 -/
def lk_obj (inf : lk_I) (pc : Nat) (lo st : List Value) (h : lk_H) : Option lk_S := match st with
  | .ref _ :: r => if inf.1 = 100 then (if (r.map fun v => v.category).sum ≤ 8 then some (pc + 3, lo, r, h) else none) else none
  | _ => none
/-- System.arraycopy of ints: number 101 -/
noncomputable def lk_cpy (inf : lk_I) (pc : Nat) (lo st : List Value) (h : lk_H) : Option lk_S := match st with
  | .int n :: .int dp :: .ref a1 :: .int sp :: .ref a0 :: r => if inf.1 = 101 then (if (r.map fun v => v.category).sum ≤ 8 then (match h[a0]? with
    | some (.inl (0, (n0, .inl f))) => match h[a1]? with
      | some (.inl (0, (n1, .inl g))) => if sp < 0 ∨ dp < 0 ∨ n < 0 ∨ n0 < sp.toNatClampNeg + n.toNatClampNeg ∨ n1 < dp.toNatClampNeg + n.toNatClampNeg then none
        else some (pc + 3, lo, r, h.set a1 (.inl (0, (n1, .inl (va_cpy f g sp.toNatClampNeg dp.toNatClampNeg n.toNatClampNeg)))))
      | _ => none
    | _ => none) else none) else none
  | _ => none
/-- Math.max, Math.min of ints: numbers 102, 103 -/
noncomputable def lk_mm (inf : lk_I) (pc : Nat) (lo st : List Value) (h : lk_H) : Option lk_S := match st with
  | .int y :: .int x :: r => if (r.map fun v => v.category).sum ≤ 8 then (if inf.1 = 102 then some (pc + 3, lo, .int (if x < y then y else x) :: r, h) else if inf.1 = 103 then some (pc + 3, lo, .int (if y < x then y else x) :: r, h) else none) else none
  | _ => none
def lk_c1 (v : Value) : Bool := v.category == 1
noncomputable def lk_st1 (X : lk_X) (I : Instr) (len : Nat) (inf : lk_I) (pc : Nat) (lo st : List Value) (h : lk_H) : Option lk_S :=
  match I with
  | .iconst _ | .bipush _ | .sipush _ | .ldc _ | .lconst _ | .ldc2_w _ => some (pc + len, lo, inf.2.2 :: st, h)
  | .aconst_null => some (pc + 1, lo, .null :: st, h)
  | .iload i => lk_ldi lo i (pc + 2) st h
  | .iload_n i => lk_ldi lo i (pc + 1) st h
  | .lload i => lk_ldl lo i (pc + 2) st h
  | .lload_n i => lk_ldl lo i (pc + 1) st h
  | .aload i => lk_lda lo i (pc + 2) st h
  | .aload_n i => lk_lda lo i (pc + 1) st h
  | .istore i => lk_sti lo i (pc + 2) st h
  | .istore_n i => lk_sti lo i (pc + 1) st h
  | .lstore i => lk_stl lo i (pc + 2) st h
  | .astore i => lk_sta lo i (pc + 2) st h
  | .astore_n i => lk_sta lo i (pc + 1) st h
  | .iinc i _ => lk_inc lo i (pc + 3) inf.2.2 st h
  | .iadd => lk_ii (fun x y => some (.int (x + y))) pc lo st h
  | .isub => lk_ii (fun x y => some (.int (x - y))) pc lo st h
  | .imul => lk_ii (fun x y => some (.int (x * y))) pc lo st h
  | .idiv => lk_ii (fun x y => if y = 0 then none else some (.int (x / y))) pc lo st h
  | .irem => lk_ii (fun x y => if y = 0 then none else some (.int (x - x / y * y))) pc lo st h
  | .iand => lk_ii (fun x y => some (.int (x &&& y))) pc lo st h
  | .ior => lk_ii (fun x y => some (.int (x ||| y))) pc lo st h
  | .ishl => lk_ii (fun x y => some (.int (x <<< (y &&& 31)))) pc lo st h
  | .ishr => lk_ii (fun x y => some (.int (x >>> (y &&& 31)))) pc lo st h
  | .ladd => lk_ll (fun x y => some (.long (x + y))) pc lo st h
  | .lsub => lk_ll (fun x y => some (.long (x - y))) pc lo st h
  | .lmul => lk_ll (fun x y => some (.long (x * y))) pc lo st h
  | .lcmp => lk_ll (fun x y => some (.int (lg_cmp x y))) pc lo st h
  | .i2l => lk_i1 (fun x => .long x.toInt64) pc lo st h
  | .i2b => lk_i1 (fun x => .int x.toInt8.toInt32) pc lo st h
  | .i2s => lk_i1 (fun x => .int x.toInt16.toInt32) pc lo st h
  | .l2i => match st with
    | .long x :: r => some (pc + 1, lo, .int x.toInt32 :: r, h)
    | _ => none
  | .dup => match st with
    | v :: r => if lk_c1 v = true then some (pc + 1, lo, v :: v :: r, h) else none
    | _ => none
  | .dup2 => match st with
    | v :: w :: r => if lk_c1 v = true then (if lk_c1 w = true then some (pc + 1, lo, v :: w :: v :: w :: r, h) else none) else none
    | _ => none
  | .ifCond c _ => match st with
    | .int x :: r => lk_if c x 0 (some (inf.1, lo, r, h)) (some (pc + 3, lo, r, h))
    | _ => none
  | .if_icmp c _ => match st with
    | .int y :: .int x :: r => lk_if c x y (some (inf.1, lo, r, h)) (some (pc + 3, lo, r, h))
    | _ => none
  | .ifnull _ => match st with
    | .null :: r => some (inf.1, lo, r, h)
    | .ref _ :: r => some (pc + 3, lo, r, h)
    | _ => none
  | .ifnonnull _ => match st with
    | .null :: r => some (pc + 3, lo, r, h)
    | .ref _ :: r => some (inf.1, lo, r, h)
    | _ => none
  | .goto _ => some (inf.1, lo, st, h)
  | .tableswitch _ _ _ _ => match st with
    | .int x :: r => some (lk_sw inf.2.1 inf.1 x, lo, r, h)
    | _ => none
  | .lookupswitch _ _ => match st with
    | .int x :: r => some (lk_sw inf.2.1 inf.1 x, lo, r, h)
    | _ => none
  | .iaload => lk_aldi X pc lo st h
  | .iastore => lk_asti pc lo st h
  | .baload => lk_aldz pc lo st h
  | .bastore => lk_astz pc lo st h
  | .aaload => lk_alda pc lo st h
  | .aastore => lk_asta pc lo st h
  | .arraylength => lk_len X pc lo st h
  | .getfield _ => lk_getf inf pc lo st h
  | .putfield _ => lk_putf inf pc lo st h
  | .newarray .int => lk_newa 0 pc lo st h
  | .newarray .boolean => lk_newa 1 pc lo st h
  | .anewarray _ => lk_newq inf.1 pc lo st h
  | .new _ => lk_new inf.1 pc lo st h
  | .instanceof _ => lk_inst inf pc lo st h
  | .checkcast _ => lk_cast inf pc lo st h
  | .invokespecial _ => lk_obj inf pc lo st h
  | .invokestatic _ => if inf.1 = 101 then lk_cpy inf pc lo st h else lk_mm inf pc lo st h
  | _ => none
/-! what the tables must say of an instruction -/
/-- words that hold on, whatever has been linked since -/
def lk_kd : Cond → Bool
  | .declares _ => true
  | .methodLinkNest .. => true
  | .castable .. => true
  | .arrayOver (.object _) => true
  | w => goodWord w
theorem lk_mv {w : Cond} (hk : lk_kd w = true) {a a' : Array Value} {s U : State} (hW : s.WarmedH U.vm) (h : w.before a s = true) : w.before a' U = true := by
  have good : goodWord w = true → w.before a' U = true := fun hg => word_at hW (good_of_word hg) h
  cases w with
  | declares x => exact va_Nw.use rfl (va_Nw.warmD hW (va_Nw.of rfl h))
  | methodLinkNest a b c d => exact va_Nw.use rfl (va_Nw.warmM hW (va_Nw.of rfl h))
  | castable a b => exact va_Nw.use rfl (va_Nw.warmC hW (va_Nw.of rfl h))
  | arrayOver t =>
    cases t with
    | object C => exact va_AO.use (va_AO.moved hW.alike (va_AO.of h))
    | _ => exact good hk
  | _ => exact good hk
def lk_T (s : State) : Prop := ∀ w ∈ lk_tbl, lk_kd w = true → w.before #[] s = true
theorem lk_T.moved {s U : State} (h : lk_T s) (hW : s.WarmedH U.vm) : lk_T U := fun w hw hk => lk_mv hk hW (h w hw hk)
theorem lk_T.use {s : State} (h : lk_T s) {w : Cond} (hw : w ∈ lk_tbl) (hk : lk_kd w = true) (a : Array Value) : w.before a s = true := lk_mv hk (State.WarmedH.refl s) (h w hw hk)
theorem lk_T.vm {s U : State} (h : lk_T s) (hv : s.vm = U.vm) : lk_T U := h.moved (by rw [← hv]; exact State.WarmedH.refl s)
/-- the name of a class by its number -/
def lk_cn (c : Nat) : String := match vwCl[c]? with
  | some q => q.1
  | none => ""
def lk_N (s : State) : Prop := ∀ q ∈ lk_nc, va_Nc (lk_cn q.1) (lk_cn q.2) s
theorem lk_N.moved {s U : State} (h : lk_N s) (hv : s.vm.Alike U.vm) : lk_N U := fun q hq => (h q hq).moved hv
def lk_tys (aC : Nat → ClassId) : List (ClassId × FieldType) := [(aC 0, lk_tgT 0), (aC 1, lk_tgT 1), (aC 2, lk_tgT 2), (aC 3, lk_tgT 3), (aC 4, lk_tgT 4)]
/-- through which class a field is named: 0 the one that declares it, n + 1 class n, 100 Thing's own -/
def lk_rf (r : Nat) (decl : String) : String := match r with
  | 0 => decl
  | n + 1 => lk_cn n
def lk_wf (own : String) (idx k : Nat) (q : Nat × Nat) : List Cond := match vwCl[q.1]? with
  | some c => .fieldLink own idx (lk_rf q.2 (c.2.1 k).1) (c.2.1 k).2.1 (c.2.1 k).2.2.1 :: (match q.2 with
    | 0 => []
    | _ => [.sameField (lk_rf q.2 (c.2.1 k).1) (c.2.1 k).1 (c.2.1 k).2.1 (c.2.1 k).2.2.1])
  | none => []
def lk_wi (nm : Nat) (q : Nat × Nat) : List Cond := if q.2 = 1 then (if q.1 = nm then [] else [.castable (lk_cn q.1) (lk_cn nm)]) else []
/-- the words of the tables that an instruction of class 'own' asks -/
def lk_wd (own : String) (I : Instr) (inf : lk_I) : List Cond := match I with
  | .ldc idx => match inf.2.2 with
    | .int v => [.constant own idx v]
    | _ => []
  | .ldc2_w idx => match inf.2.2 with
    | .long v => [.constantLong own idx v]
    | _ => []
  | .getfield idx => inf.2.1.flatMap (lk_wf own idx inf.1)
  | .putfield idx => inf.2.1.flatMap (lk_wf own idx inf.1)
  | .newarray .int => [.arrayClass .int]
  | .newarray .boolean => [.arrayClass .boolean]
  | .anewarray idx => [.classLink own idx (lk_tgC inf.1), .arrayOver (.object (lk_tgC inf.1))]
  | .new idx => match vwCl[inf.1]? with
    | some c => [.classLink own idx c.1, .instantiable c.1 c.2.2, .initialized c.1]
    | none => []
  | .instanceof idx => .classLink own idx (lk_cn inf.1) :: inf.2.1.flatMap (lk_wi inf.1)
  | .checkcast idx => .classLink own idx (lk_cn inf.1) :: inf.2.1.flatMap (lk_wi inf.1)
  | .invokespecial idx => if inf.1 = 100 then [.methodLink own idx objectInit, .instanceMethod objectInit, .code objectInit ⟨#[0xb1]⟩ 1 none] else []
  | .invokestatic idx => if inf.1 = 101 then [.methodLink own idx arraycopyName, .native arraycopyName, .static arraycopyName, .initialized "java/lang/System"] else if inf.1 = 102 then [.methodLink own idx Lib.Math.max.name, .static Lib.Math.max.name, .initialized "java/lang/Math", .code Lib.Math.max.name Lib.Math.max.code 2 (some .int)] else if inf.1 = 103 then [.methodLink own idx Lib.Math.min.name, .static Lib.Math.min.name, .initialized "java/lang/Math", .code Lib.Math.min.name Lib.Math.min.code 2 (some .int)] else []
  | _ => []
/-- what else must hold of an instruction: targets, constants, fields that are final, classes that aren't castable -/
def lk_sd (own name : String) (pc : Nat) (I : Instr) (inf : lk_I) : Bool := match I with
  | .iconst i => decide (inf.2.2 = .int (Int32.ofInt i))
  | .bipush i => decide (inf.2.2 = .int (Int8.ofInt i).toInt32)
  | .sipush i => decide (inf.2.2 = .int (Int16.ofInt i).toInt32)
  | .lconst i => decide (inf.2.2 = .long (Int64.ofNat (i : Nat)))
  | .ldc _ => (match inf.2.2 with
    | .int _ => true
    | _ => false)
  | .ldc2_w _ => (match inf.2.2 with
    | .long _ => true
    | _ => false)
  | .iinc _ n => decide (inf.2.2 = .int (Int32.ofInt n))
  | .ifCond _ off | .if_icmp _ off | .ifnull off | .ifnonnull off | .goto off => decide ((pc : Int) + off = (inf.1 : Int))
  | .tableswitch d lo hi offs => decide (lo = 0) && decide (hi + 1 = (offs.size : Int)) && decide ((pc : Int) + d = (inf.1 : Int)) && decide (offs.size < 1000) && decide (inf.2.1.map (fun q => ((q.1 : Int), (q.2 : Int))) = offs.toList.zipIdx.map (fun q => ((q.2 : Int), (pc : Int) + q.1)))
  | .lookupswitch d ps => (ps.toList.zip (ps.toList.drop 1)).all (fun (a, next) => a.1 < next.1) && decide ((pc : Int) + d = (inf.1 : Int)) && inf.2.1.all (fun q => decide (q.1 < 1000)) && decide (inf.2.1.map (fun q => ((q.1 : Int), (q.2 : Int))) = ps.toList.map (fun q => (q.1, (pc : Int) + q.2)))
  | .getfield _ => inf.2.1.all (fun q => match vwCl[q.1]? with
    | some c => decide (inf.1 < c.2.2)
    | none => false)
  | .putfield _ => inf.2.1.all (fun q => match vwCl[q.1]? with
    | some c => decide (inf.1 < c.2.2) && (!(c.2.1 inf.1).2.2.2 || (decide (name = "<init>") && decide ((c.2.1 inf.1).1 = own)))
    | none => false)
  | .instanceof _ => inf.2.1.all (fun q => q.2 == 1 || decide ((q.1, inf.1) ∈ lk_nc)) && decide (inf.1 < 12)
  | .checkcast _ => decide (inf.1 < 12)
  | _ => true
/-- how long an instruction is (a switch's length is as it is) -/
def lk_ln : Instr → Nat
  | .bipush _ | .ldc _ | .iload _ | .lload _ | .aload _ | .istore _ | .lstore _ | .astore _ | .newarray _ => 2
  | .sipush _ | .ldc2_w _ | .iinc _ _ | .ifCond _ _ | .if_icmp _ _ | .ifnull _ | .ifnonnull _ | .goto _ | .getfield _ | .putfield _ | .anewarray _ | .new _ | .instanceof _ | .checkcast _ | .invokespecial _ | .invokestatic _ | .invokevirtual _ => 3
  | _ => 1
def lk_ls (I : Instr) (len : Nat) : Bool := match I with
  | .tableswitch _ _ _ _ => true
  | .lookupswitch _ _ => true
  | I => len == lk_ln I
end
section
/-! each instruction of the small machine is followed by the machine -/
def lk_cz : va_E → Nat
  | .inl a => a.2.1
  | .inr o => o.2.length
def lk_sz (h : lk_H) : Nat := (h.map lk_cz).sum
theorem lk_sz_app (h : lk_H) (x : va_E) : lk_sz (h ++ [x]) = lk_sz h + lk_cz x := by simp [lk_sz]
theorem lk_sz_set {h : lk_H} {k : Nat} {x y : va_E} (hk : h[k]? = some x) (he : lk_cz y = lk_cz x) : lk_sz (h.set k y) = lk_sz h := by
  unfold lk_sz
  congr 1
  rw [List.map_set, he]
  apply List.ext_getElem?
  intro i
  rw [List.getElem?_set]
  by_cases hi : k = i
  · subst hi
    rw [if_pos rfl, List.length_map, if_pos (List.getElem?_eq_some_iff.mp hk).1, List.getElem?_map, hk]
    rfl
  · rw [if_neg hi]
/-! what a step's having come to something says -/
theorem lk_ldi_inv {lo : List Value} {i pc : Nat} {st : List Value} {h : lk_H} {q : lk_S} (e : lk_ldi lo i pc st h = some q) : ∃ x, lo[i]? = some (.int x) ∧ q = (pc, lo, .int x :: st, h) := by
  unfold lk_ldi at e
  split at e
  · rename_i x hx
    exact ⟨x, hx, (Option.some.inj e).symm⟩
  · cases e
theorem lk_ldl_inv {lo : List Value} {i pc : Nat} {st : List Value} {h : lk_H} {q : lk_S} (e : lk_ldl lo i pc st h = some q) : ∃ x, lo[i]? = some (.long x) ∧ q = (pc, lo, .long x :: st, h) := by
  unfold lk_ldl at e
  split at e
  · rename_i x hx
    exact ⟨x, hx, (Option.some.inj e).symm⟩
  · cases e
theorem lk_lda_inv {lo : List Value} {i pc : Nat} {st : List Value} {h : lk_H} {q : lk_S} (e : lk_lda lo i pc st h = some q) : ∃ v, lo[i]? = some v ∧ lk_v v = true ∧ ((∀ b z, ∃ x, lk_sv b z v = .ref x) ∨ v = .null) ∧ q = (pc, lo, v :: st, h) := by
  unfold lk_lda at e
  split at e
  · rename_i x hx
    exact ⟨_, hx, rfl, Or.inl (fun b z => ⟨_, rfl⟩), (Option.some.inj e).symm⟩
  · rename_i hx
    exact ⟨_, hx, rfl, Or.inr rfl, (Option.some.inj e).symm⟩
  · rename_i n hx
    exact ⟨_, hx, rfl, Or.inl (fun b z => ⟨_, rfl⟩), (Option.some.inj e).symm⟩
  · cases e
theorem lk_sti_inv {lo : List Value} {i pc : Nat} {st : List Value} {h : lk_H} {q : lk_S} (e : lk_sti lo i pc st h = some q) : ∃ x r lo', st = .int x :: r ∧ lk_set lo i (.int x) = some lo' ∧ q = (pc, lo', r, h) := by
  unfold lk_sti at e
  split at e
  · rename_i x r
    cases hs : lk_set lo i (.int x) with
    | none => rw [hs] at e; cases e
    | some lo' => rw [hs] at e; exact ⟨x, r, lo', rfl, hs, (Option.some.inj e).symm⟩
  · cases e
theorem lk_stl_inv {lo : List Value} {i pc : Nat} {st : List Value} {h : lk_H} {q : lk_S} (e : lk_stl lo i pc st h = some q) : ∃ x r lo', st = .long x :: r ∧ lk_set2 lo i (.long x) = some lo' ∧ q = (pc, lo', r, h) := by
  unfold lk_stl at e
  split at e
  · rename_i x r
    cases hs : lk_set2 lo i (.long x) with
    | none => rw [hs] at e; cases e
    | some lo' => rw [hs] at e; exact ⟨x, r, lo', rfl, hs, (Option.some.inj e).symm⟩
  · cases e
theorem lk_sta_inv {lo : List Value} {i pc : Nat} {st : List Value} {h : lk_H} {q : lk_S} (e : lk_sta lo i pc st h = some q) : ∃ v r lo', st = v :: r ∧ lk_set lo i v = some lo' ∧ ((∃ x, v = .ref x) ∨ v = .null) ∧ q = (pc, lo', r, h) := by
  unfold lk_sta at e
  split at e
  · rename_i x r
    cases hs : lk_set lo i (.ref x) with
    | none => rw [hs] at e; cases e
    | some lo' => rw [hs] at e; exact ⟨_, r, lo', rfl, hs, Or.inl ⟨x, rfl⟩, (Option.some.inj e).symm⟩
  · rename_i r
    cases hs : lk_set lo i .null with
    | none => rw [hs] at e; cases e
    | some lo' => rw [hs] at e; exact ⟨_, r, lo', rfl, hs, Or.inr rfl, (Option.some.inj e).symm⟩
  · cases e
theorem lk_inc_inv {lo : List Value} {i pc : Nat} {c : Value} {st : List Value} {h : lk_H} {q : lk_S} (e : lk_inc lo i pc c st h = some q) : ∃ x y lo', lo[i]? = some (.int x) ∧ c = .int y ∧ lk_set lo i (.int (x + y)) = some lo' ∧ q = (pc, lo', st, h) := by
  unfold lk_inc at e
  split at e
  · rename_i x hx
    split at e
    · rename_i y
      cases hs : lk_set lo i (.int (x + y)) with
      | none => rw [hs] at e; cases e
      | some lo' => rw [hs] at e; exact ⟨x, y, lo', hx, rfl, hs, (Option.some.inj e).symm⟩
    · cases e
  · cases e
theorem lk_ii_inv {f : Int32 → Int32 → Option Value} {pc : Nat} {lo st : List Value} {h : lk_H} {q : lk_S} (e : lk_ii f pc lo st h = some q) : ∃ x y r v, st = .int y :: .int x :: r ∧ f x y = some v ∧ q = (pc + 1, lo, v :: r, h) := by
  unfold lk_ii at e
  split at e
  · rename_i y x r
    cases hf : f x y with
    | none => rw [hf] at e; cases e
    | some v => rw [hf] at e; exact ⟨x, y, r, v, rfl, hf, (Option.some.inj e).symm⟩
  · cases e
theorem lk_ll_inv {f : Int64 → Int64 → Option Value} {pc : Nat} {lo st : List Value} {h : lk_H} {q : lk_S} (e : lk_ll f pc lo st h = some q) : ∃ x y r v, st = .long y :: .long x :: r ∧ f x y = some v ∧ q = (pc + 1, lo, v :: r, h) := by
  unfold lk_ll at e
  split at e
  · rename_i y x r
    cases hf : f x y with
    | none => rw [hf] at e; cases e
    | some v => rw [hf] at e; exact ⟨x, y, r, v, rfl, hf, (Option.some.inj e).symm⟩
  · cases e
theorem lk_i1_inv {f : Int32 → Value} {pc : Nat} {lo st : List Value} {h : lk_H} {q : lk_S} (e : lk_i1 f pc lo st h = some q) : ∃ x r, st = .int x :: r ∧ q = (pc + 1, lo, f x :: r, h) := by
  unfold lk_i1 at e
  split at e
  · rename_i x r
    exact ⟨x, r, rfl, (Option.some.inj e).symm⟩
  · cases e
theorem lk_in_of {i : Int32} {n : Nat} (h : ¬ (i < 0 ∨ n ≤ i.toNatClampNeg)) : vp_in i n := h
theorem lk_set_len {lo lo' : List Value} {i : Nat} {v : Value} (h : lk_set lo i v = some lo') : i < lo.length ∧ lo'.length = lo.length := by
  unfold lk_set at h
  split at h
  · rename_i hi
    cases h
    exact ⟨hi, by rw [List.length_set, lk_clr_len]⟩
  · cases h
theorem lk_set2_len {lo lo' : List Value} {i : Nat} {v : Value} (h : lk_set2 lo i v = some lo') : i + 1 < lo.length ∧ lo'.length = lo.length := by
  unfold lk_set2 at h
  split at h
  · rename_i hi
    cases h
    exact ⟨hi, by rw [List.length_set, List.length_set, lk_clr_len]⟩
  · cases h
/-! switches -/
theorem lk_sw_no {l : List (Nat × Nat)} {d : Nat} {x : Int32} (h : ∀ q ∈ l, ¬ x = Int32.ofNat q.1) : lk_sw l d x = d := by
  induction l with
  | nil => rfl
  | cons q r ih =>
    simp only [lk_sw]
    rw [if_neg (h q List.mem_cons_self)]
    exact ih (fun w hw => h w (List.mem_cons_of_mem _ hw))
theorem lk_sw_yes {l : List (Nat × Nat)} {d i t : Nat} {x : Int32} (hi : l[i]? = some (i, t)) (hx : x = Int32.ofNat i) (hl : ∀ (k v w : Nat), l[k]? = some (v, w) → k < i → ¬ Int32.ofNat i = Int32.ofNat v) : lk_sw l d x = t := by
  subst hx
  suffices h : ∀ (l : List (Nat × Nat)) (j : Nat), l[j]? = some (i, t) → (∀ (k v w : Nat), l[k]? = some (v, w) → k < j → ¬ Int32.ofNat i = Int32.ofNat v) → lk_sw l d (Int32.ofNat i) = t from h l i hi hl
  intro l
  induction l with
  | nil => intro j hj; cases hj
  | cons q r ih =>
    intro j hj hl
    simp only [lk_sw]
    cases j with
    | zero =>
      cases hj
      rw [if_pos rfl]
    | succ j =>
      rw [if_neg (hl 0 q.1 q.2 rfl (Nat.succ_pos _))]
      exact ih j hj (fun k v w hk hkj => hl (k + 1) v w hk (by omega))
theorem lk_sw_look {pc d : Nat} {dflt : Int} {x : Int32} (hd : (pc : Int) + dflt = (d : Int)) : ∀ (l : List (Nat × Nat)) (ps : List (Int × Int)), l.map (fun q => ((q.1 : Int), (q.2 : Int))) = ps.map (fun q => (q.1, (pc : Int) + q.2)) → (∀ q ∈ l, q.1 < 1000) → (pc : Int) + Op.lookupswitch.offset ps dflt x.toInt = ((lk_sw l d x : Nat) : Int) := by
  intro l
  induction l with
  | nil =>
    intro ps h _
    cases ps with
    | nil =>
      show (pc : Int) + Op.lookupswitch.offset [] dflt x.toInt = (d : Int)
      rw [show Op.lookupswitch.offset [] dflt x.toInt = dflt from rfl]
      exact hd
    | cons a b => cases h
  | cons q r ih =>
    intro ps h hb
    cases ps with
    | nil => cases h
    | cons a b =>
      simp only [List.map_cons, List.cons.injEq, Prod.mk.injEq] at h
      obtain ⟨⟨h1, h2⟩, h3⟩ := h
      have hq : q.1 < 1000 := hb q List.mem_cons_self
      obtain ⟨a1, a2⟩ := a
      have hi := ih b h3 (fun w hw => hb w (List.mem_cons_of_mem _ hw))
      rw [Op.lookupswitch.offset_cons]
      simp only [lk_sw]
      dsimp only at h1 h2
      have e1 : (Int32.ofNat q.1).toInt = (q.1 : Int) := nI_toInt (by omega)
      by_cases hx : x = Int32.ofNat q.1
      · rw [if_pos hx, if_pos (by rw [hx, e1]; exact h1.symm)]
        exact h2.symm
      · rw [if_neg hx, if_neg (fun q2 => hx (Int32.toInt_inj.mp (by rw [e1, h1]; exact q2.symm)))]
        exact hi
end
section
/-! the step theorem, by instructions -/
section LKS
variable {p : Program} {l : Launch} {e : Env} {R : Room} {s : State} {m : MethodId} {args : Array Value} {below : List Frame} {meth : Method} {c : Code} {H : Heap} {locs : List Loc} {cells slots : Nat} {Q : State → Prop}
variable {HB : Heap} {z L : Nat} {xs : Nat → Int32} {dC : Nat → ClassId} {dI : Nat → Nat → Nat} {aC : Nat → ClassId} {cc : ByteArray} {own name : String}
def lk_C (HB : Heap) (z L : Nat) (xs : Nat → Int32) (dC : Nat → ClassId) (dI : Nat → Nat → Nat) (aC : Nat → ClassId) (p : Program) (s : State) (m : MethodId) (meth : Method) (c : Code) (cc : ByteArray) (own name : String) : Prop :=
  p.tables.exec = Jvm.exec ∧ c.code = cc ∧ s.vm.findClass own = some m.cls ∧ lk_T s ∧ va_K (dC, dI) vwCl (lk_tys aC) s ∧ lk_N s ∧ va_X z L xs s HB ∧ z < HB.size ∧ meth.name = name
def lk_R (HB : Heap) (z : Nat) (dC : Nat → ClassId) (dI : Nat → Nat → Nat) (aC : Nat → ClassId) (h : lk_H) (H : Heap) (locs : List Loc) : Prop := va_P (dC, dI) vwCl (lk_ws HB.size z aC h) H ∧ va_S (fun q : Nat => HB.size ≤ q) HB H locs
/-- the heap's size is bounded by the frame's own book -/
theorem lk_bound {g : JFrame} (k : H.size ≤ s.heap.size + cells → W p l e R s m args below meth c H locs cells slots Q g) : W p l e R s m args below meth c H locs cells slots Q g := fun T hT X => k (by rw [← hT]; exact X.heapSize) T hT X
theorem lk_S.self {A : Nat → Prop} {H0 H : Heap} {locs : List Loc} (h : va_S A H0 H locs) : va_S A H H locs := ⟨Nat.le_refl _, fun _ _ _ => rfl, h.2.2⟩
theorem lk_S.trans {A : Nat → Prop} {H0 H H1 : Heap} {locs locs1 : List Loc} (h : va_S A H0 H locs) (h1 : va_S A H H1 locs1) : va_S A H0 H1 locs1 := ⟨Nat.le_trans h.1 h1.1, fun q hq hA => (h1.2.1 q (Nat.lt_of_lt_of_le hq h.1) hA).trans (h.2.1 q hq hA), h1.2.2⟩
theorem lk_A (H : Heap) (h : HB.size ≤ H.size) : ∀ q : Nat, H.size ≤ q → (fun q : Nat => HB.size ≤ q) q := fun q hq => Nat.le_trans h hq
abbrev lk_k (p : Program) (l : Launch) (e : Env) (R : Room) (s : State) (m : MethodId) (args : Array Value) (below : List Frame) (meth : Method) (c : Code) (cells slots : Nat) (Q : State → Prop) (HB : Heap) (z : Nat) (dC : Nat → ClassId) (dI : Nat → Nat → Nat) (aC : Nat → ClassId) (lo : List Value) (h : lk_H) (q : lk_S) : Prop :=
  ∀ (H' : Heap) (locs' : List Loc) (ls' : Array Slot), lk_R HB z dC dI aC q.2.2.2 H' locs' → lk_L HB.size z ls' q.2.1 → q.2.1.length = lo.length →
    W p l e R s m args below meth c H' locs' (cells + (q.2.2.2.length - h.length)) (slots + (lk_sz q.2.2.2 - lk_sz h)) Q (F0 m q.1 ls' (q.2.2.1.map (lk_sv HB.size z)))
theorem lk_k.same {lo : List Value} {h : lk_H} {pc' : Nat} {lo' st' : List Value} (kk : lk_k p l e R s m args below meth c cells slots Q HB z dC dI aC lo h (pc', lo', st', h)) (hR : lk_R HB z dC dI aC h H locs) {ls' : Array Slot} (hl : lk_L HB.size z ls' lo') (hn : lo'.length = lo.length) :
    W p l e R s m args below meth c H locs cells slots Q (F0 m pc' ls' (st'.map (lk_sv HB.size z))) := by
  have k := kk H locs ls' hR hl hn
  dsimp only at k
  rw [Nat.sub_self, Nat.sub_self, Nat.add_zero, Nat.add_zero] at k
  exact k
theorem lk_k.set {lo : List Value} {h : lk_H} {a : Nat} {x y : va_E} {pc' : Nat} {st' : List Value} (kk : lk_k p l e R s m args below meth c cells slots Q HB z dC dI aC lo h (pc', lo, st', h.set a y)) (hx : h[a]? = some x) (hs : lk_cz y = lk_cz x) (hR : lk_R HB z dC dI aC (h.set a y) H locs) {ls : Array Slot} (hl : lk_L HB.size z ls lo) :
    W p l e R s m args below meth c H locs cells slots Q (F0 m pc' ls (st'.map (lk_sv HB.size z))) := by
  have k := kk H locs ls hR hl rfl
  dsimp only at k
  rw [lk_sz_set hx hs, List.length_set, Nat.sub_self, Nat.sub_self, Nat.add_zero, Nat.add_zero] at k
  exact k
theorem lk_k.push {lo : List Value} {h : lk_H} {y : va_E} {pc' : Nat} {st' : List Value} (kk : lk_k p l e R s m args below meth c cells slots Q HB z dC dI aC lo h (pc', lo, st', h ++ [y])) (hR : lk_R HB z dC dI aC (h ++ [y]) H locs) {ls : Array Slot} (hl : lk_L HB.size z ls lo) :
    W p l e R s m args below meth c H locs (cells + 1) (slots + lk_cz y) Q (F0 m pc' ls (st'.map (lk_sv HB.size z))) := by
  have k := kk H locs ls hR hl rfl
  dsimp only at k
  rw [lk_sz_app, List.length_append, Nat.add_sub_cancel_left, Nat.add_sub_cancel_left] at k
  exact k
variable {pc : Nat} {lo st : List Value} {h : lk_H} {ls : Array Slot} {inf : lk_I} {q : lk_S}
/-- the address of what was made -/
theorem lk_fresh {h : lk_H} {H1 : Heap} {q : Nat} {y : va_E} (hbd : H1.size ≤ HB.size + h.length + 1) (hP : va_P (dC, dI) vwCl (lk_ws HB.size z aC h ++ [(q, y)]) H1) (hD : va_D (fun q : Nat => HB.size ≤ q) (lk_ws HB.size z aC h ++ [(q, y)])) : q = HB.size + h.length := by
  have hq : (lk_ws HB.size z aC h ++ [(q, y)])[h.length]? = some (q, y) := by
    rw [List.getElem?_append_right (by rw [lk_ws_length]; exact Nat.le_refl _), lk_ws_length, Nat.sub_self]; rfl
  have h1 := (hP _ _ hq).lt
  have h2 := hD.2 _ _ hq
  dsimp only at h1 h2
  rcases Nat.lt_or_ge (q - HB.size) h.length with hlt | hge
  · obtain ⟨x, hx⟩ : ∃ x, h[q - HB.size]? = some x := ⟨_, List.getElem?_eq_getElem hlt⟩
    have h3 : (lk_ws HB.size z aC h ++ [(q, y)])[q - HB.size]? = some (HB.size + (q - HB.size), lk_se HB.size z aC x) := by
      rw [List.getElem?_append_left (by rw [lk_ws_length]; exact hlt)]
      exact lk_ws_at hx
    have h4 := hD.1 _ _ _ _ h3 hq (by dsimp only; omega)
    omega
  · omega
/-! locals and constants -/
theorem lk_s_const (hC : lk_C HB z L xs dC dI aC p s m meth c cc own name) {I : Instr} {n : Nat} (hr : lk_R HB z dC dI aC h H locs) (hl : lk_L HB.size z ls lo)
    (row : ∀ v : Value, inf.2.2 = v → W p l e R s m args below meth c H locs cells slots Q (F0 m (pc + n) ls (lk_sv HB.size z v :: st.map (lk_sv HB.size z))) → W p l e R s m args below meth c H locs cells slots Q (F0 m pc ls (st.map (lk_sv HB.size z))))
    (kk : lk_k p l e R s m args below meth c cells slots Q HB z dC dI aC lo h (pc + n, lo, inf.2.2 :: st, h)) : W p l e R s m args below meth c H locs cells slots Q (F0 m pc ls (st.map (lk_sv HB.size z))) :=
  row _ rfl (kk.same hr hl rfl)
end LKS
end
section
section LKS2
variable {p : Program} {l : Launch} {e : Env} {R : Room} {s : State} {m : MethodId} {args : Array Value} {below : List Frame} {meth : Method} {c : Code} {H : Heap} {locs : List Loc} {cells slots : Nat} {Q : State → Prop}
variable {HB : Heap} {z L : Nat} {xs : Nat → Int32} {dC : Nat → ClassId} {dI : Nat → Nat → Nat} {aC : Nat → ClassId} {cc : ByteArray} {own name : String}
variable {pc : Nat} {lo st : List Value} {h : lk_H} {ls : Array Slot} {inf : lk_I} {q : lk_S}

theorem lk_s_iload (hC : lk_C HB z L xs dC dI aC p s m meth c cc own name) (hR : lk_R HB z dC dI aC h H locs) (hl : lk_L HB.size z ls lo) {i : Nat} (hdg : decode cc pc = .ok (.iload i, 2)) (hst : lk_ldi lo i (pc + 2) st h = some q) (kk : lk_k p l e R s m args below meth c cells slots Q HB z dC dI aC lo h q) : W p l e R s m args below meth c H locs cells slots Q (F0 m pc ls (st.map (lk_sv HB.size z))) := by
  obtain ⟨hx, hb, hown, hT, hK, hN, hX, hz, hnm⟩ := id hC
  obtain ⟨x, h1, rfl⟩ := lk_ldi_inv hst
  exact lv_iload hx hb hdg (hl.at h1 rfl) (kk.same hR hl rfl)
theorem lk_s_iload_n (hC : lk_C HB z L xs dC dI aC p s m meth c cc own name) (hR : lk_R HB z dC dI aC h H locs) (hl : lk_L HB.size z ls lo) {i : Fin 4} (hdg : decode cc pc = .ok (.iload_n i, 1)) (hst : lk_ldi lo i (pc + 1) st h = some q) (kk : lk_k p l e R s m args below meth c cells slots Q HB z dC dI aC lo h q) : W p l e R s m args below meth c H locs cells slots Q (F0 m pc ls (st.map (lk_sv HB.size z))) := by
  obtain ⟨hx, hb, hown, hT, hK, hN, hX, hz, hnm⟩ := id hC
  obtain ⟨x, h1, rfl⟩ := lk_ldi_inv hst
  exact lv_iload_n hx hb hdg rfl (hl.at h1 rfl) (kk.same hR hl rfl)
theorem lk_s_lload (hC : lk_C HB z L xs dC dI aC p s m meth c cc own name) (hR : lk_R HB z dC dI aC h H locs) (hl : lk_L HB.size z ls lo) {i : Nat} (hdg : decode cc pc = .ok (.lload i, 2)) (hst : lk_ldl lo i (pc + 2) st h = some q) (kk : lk_k p l e R s m args below meth c cells slots Q HB z dC dI aC lo h q) : W p l e R s m args below meth c H locs cells slots Q (F0 m pc ls (st.map (lk_sv HB.size z))) := by
  obtain ⟨hx, hb, hown, hT, hK, hN, hX, hz, hnm⟩ := id hC
  obtain ⟨x, h1, rfl⟩ := lk_ldl_inv hst
  exact lv_lload hx hb hdg (hl.at h1 rfl) (kk.same hR hl rfl)
theorem lk_s_lload_n (hC : lk_C HB z L xs dC dI aC p s m meth c cc own name) (hR : lk_R HB z dC dI aC h H locs) (hl : lk_L HB.size z ls lo) {i : Fin 4} (hdg : decode cc pc = .ok (.lload_n i, 1)) (hst : lk_ldl lo i (pc + 1) st h = some q) (kk : lk_k p l e R s m args below meth c cells slots Q HB z dC dI aC lo h q) : W p l e R s m args below meth c H locs cells slots Q (F0 m pc ls (st.map (lk_sv HB.size z))) := by
  obtain ⟨hx, hb, hown, hT, hK, hN, hX, hz, hnm⟩ := id hC
  obtain ⟨x, h1, rfl⟩ := lk_ldl_inv hst
  exact lv_lload_n hx hb hdg rfl (hl.at h1 rfl) (kk.same hR hl rfl)
theorem lk_s_aload (hC : lk_C HB z L xs dC dI aC p s m meth c cc own name) (hR : lk_R HB z dC dI aC h H locs) (hl : lk_L HB.size z ls lo) {i : Nat} (hdg : decode cc pc = .ok (.aload i, 2)) (hst : lk_lda lo i (pc + 2) st h = some q) (kk : lk_k p l e R s m args below meth c cells slots Q HB z dC dI aC lo h q) : W p l e R s m args below meth c H locs cells slots Q (F0 m pc ls (st.map (lk_sv HB.size z))) := by
  obtain ⟨hx, hb, hown, hT, hK, hN, hX, hz, hnm⟩ := id hC
  obtain ⟨v, h1, h2, h3, rfl⟩ := lk_lda_inv hst
  have h4 := hl.at h1 h2
  have k := kk.same hR hl rfl
  rw [List.map_cons] at k
  rcases h3 with h3 | rfl
  · obtain ⟨x, hv⟩ := h3 HB.size z
    rw [hv] at h4 k
    exact lv_aload hx hb hdg h4 k
  · exact lv_aloadN hx hb hdg h4 k
theorem lk_s_istore (hC : lk_C HB z L xs dC dI aC p s m meth c cc own name) (hR : lk_R HB z dC dI aC h H locs) (hl : lk_L HB.size z ls lo) {i : Nat} (hdg : decode cc pc = .ok (.istore i, 2)) (hst : lk_sti lo i (pc + 2) st h = some q) (kk : lk_k p l e R s m args below meth c cells slots Q HB z dC dI aC lo h q) : W p l e R s m args below meth c H locs cells slots Q (F0 m pc ls (st.map (lk_sv HB.size z))) := by
  obtain ⟨hx, hb, hown, hT, hK, hN, hX, hz, hnm⟩ := id hC
  obtain ⟨x, r, lo', rfl, h1, rfl⟩ := lk_sti_inv hst
  exact lv_istore hx hb hdg hl.has (lk_set_len h1).1 rfl (fun ls' h' => kk.same hR (lk_L.set (v := .int x) h1 h') (lk_set_len h1).2)
theorem lk_s_astore (hC : lk_C HB z L xs dC dI aC p s m meth c cc own name) (hR : lk_R HB z dC dI aC h H locs) (hl : lk_L HB.size z ls lo) {i : Nat} (hdg : decode cc pc = .ok (.astore i, 2)) (hst : lk_sta lo i (pc + 2) st h = some q) (kk : lk_k p l e R s m args below meth c cells slots Q HB z dC dI aC lo h q) : W p l e R s m args below meth c H locs cells slots Q (F0 m pc ls (st.map (lk_sv HB.size z))) := by
  obtain ⟨hx, hb, hown, hT, hK, hN, hX, hz, hnm⟩ := id hC
  obtain ⟨v, r, lo', rfl, h1, h2, rfl⟩ := lk_sta_inv hst
  rcases h2 with ⟨x, rfl⟩ | rfl
  · exact lv_astore hx hb hdg hl.has (lk_set_len h1).1 rfl (fun ls' h' => kk.same hR (lk_L.set (v := .ref x) h1 h') (lk_set_len h1).2)
  · exact lv_astoreN hx hb hdg hl.has (lk_set_len h1).1 rfl (fun ls' h' => kk.same hR (lk_L.set (v := .null) h1 h') (lk_set_len h1).2)
theorem lk_s_aload_n (hC : lk_C HB z L xs dC dI aC p s m meth c cc own name) (hR : lk_R HB z dC dI aC h H locs) (hl : lk_L HB.size z ls lo) {i : Fin 4} (hdg : decode cc pc = .ok (.aload_n i, 1)) (hst : lk_lda lo i (pc + 1) st h = some q) (kk : lk_k p l e R s m args below meth c cells slots Q HB z dC dI aC lo h q) : W p l e R s m args below meth c H locs cells slots Q (F0 m pc ls (st.map (lk_sv HB.size z))) := by
  obtain ⟨hx, hb, hown, hT, hK, hN, hX, hz, hnm⟩ := id hC
  obtain ⟨v, h1, h2, h3, rfl⟩ := lk_lda_inv hst
  have h4 := hl.at h1 h2
  have k := kk.same hR hl rfl
  rw [List.map_cons] at k
  rcases h3 with h3 | rfl
  · obtain ⟨x, hv⟩ := h3 HB.size z
    rw [hv] at h4 k
    exact lv_aload_n hx hb hdg rfl h4 k
  · exact lv_aload_nN hx hb hdg rfl h4 k
theorem lk_s_istore_n (hC : lk_C HB z L xs dC dI aC p s m meth c cc own name) (hR : lk_R HB z dC dI aC h H locs) (hl : lk_L HB.size z ls lo) {i : Fin 4} (hdg : decode cc pc = .ok (.istore_n i, 1)) (hst : lk_sti lo i (pc + 1) st h = some q) (kk : lk_k p l e R s m args below meth c cells slots Q HB z dC dI aC lo h q) : W p l e R s m args below meth c H locs cells slots Q (F0 m pc ls (st.map (lk_sv HB.size z))) := by
  obtain ⟨hx, hb, hown, hT, hK, hN, hX, hz, hnm⟩ := id hC
  obtain ⟨x, r, lo', rfl, h1, rfl⟩ := lk_sti_inv hst
  exact lv_istore_n hx hb hdg rfl hl.has (lk_set_len h1).1 rfl (fun ls' h' => kk.same hR (lk_L.set (v := .int x) h1 h') (lk_set_len h1).2)
theorem lk_s_astore_n (hC : lk_C HB z L xs dC dI aC p s m meth c cc own name) (hR : lk_R HB z dC dI aC h H locs) (hl : lk_L HB.size z ls lo) {i : Fin 4} (hdg : decode cc pc = .ok (.astore_n i, 1)) (hst : lk_sta lo i (pc + 1) st h = some q) (kk : lk_k p l e R s m args below meth c cells slots Q HB z dC dI aC lo h q) : W p l e R s m args below meth c H locs cells slots Q (F0 m pc ls (st.map (lk_sv HB.size z))) := by
  obtain ⟨hx, hb, hown, hT, hK, hN, hX, hz, hnm⟩ := id hC
  obtain ⟨v, r, lo', rfl, h1, h2, rfl⟩ := lk_sta_inv hst
  rcases h2 with ⟨x, rfl⟩ | rfl
  · exact lv_astore_n hx hb hdg rfl hl.has (lk_set_len h1).1 rfl (fun ls' h' => kk.same hR (lk_L.set (v := .ref x) h1 h') (lk_set_len h1).2)
  · exact lv_astore_nN hx hb hdg rfl hl.has (lk_set_len h1).1 rfl (fun ls' h' => kk.same hR (lk_L.set (v := .null) h1 h') (lk_set_len h1).2)
theorem lk_s_lstore (hC : lk_C HB z L xs dC dI aC p s m meth c cc own name) (hR : lk_R HB z dC dI aC h H locs) (hl : lk_L HB.size z ls lo) {i : Nat} (hdg : decode cc pc = .ok (.lstore i, 2)) (hst : lk_stl lo i (pc + 2) st h = some q) (kk : lk_k p l e R s m args below meth c cells slots Q HB z dC dI aC lo h q) : W p l e R s m args below meth c H locs cells slots Q (F0 m pc ls (st.map (lk_sv HB.size z))) := by
  obtain ⟨hx, hb, hown, hT, hK, hN, hX, hz, hnm⟩ := id hC
  obtain ⟨x, r, lo', rfl, h1, rfl⟩ := lk_stl_inv hst
  exact lv_lstore hx hb hdg hl.has (lk_set2_len h1).1 rfl (fun ls' h' => kk.same hR (lk_L.set2 (v := .long x) h1 h') (lk_set2_len h1).2)
theorem lk_s_iinc (hC : lk_C HB z L xs dC dI aC p s m meth c cc own name) (hR : lk_R HB z dC dI aC h H locs) (hl : lk_L HB.size z ls lo) {i : Nat} {n : Int} (hdg : decode cc pc = .ok (.iinc i n, 3)) (hsd : inf.2.2 = .int (Int32.ofInt n)) (hst : lk_inc lo i (pc + 3) inf.2.2 st h = some q) (kk : lk_k p l e R s m args below meth c cells slots Q HB z dC dI aC lo h q) : W p l e R s m args below meth c H locs cells slots Q (F0 m pc ls (st.map (lk_sv HB.size z))) := by
  obtain ⟨hx, hb, hown, hT, hK, hN, hX, hz, hnm⟩ := id hC
  obtain ⟨x, y, lo', h0, h2, h1, rfl⟩ := lk_inc_inv hst
  rw [hsd] at h2
  cases h2
  obtain ⟨k, hk⟩ := List.getElem?_of_mem (lk_al_mem (b := HB.size) (z := z) h0 rfl)
  exact lv_iinc hx hb hdg hl.has hk rfl (lk_set_len h1).1 rfl (fun ls' h' => kk.same hR (lk_L.set (v := .int (x + Int32.ofInt n)) h1 h') (lk_set_len h1).2)
theorem lk_s_iadd (hC : lk_C HB z L xs dC dI aC p s m meth c cc own name) (hR : lk_R HB z dC dI aC h H locs) (hl : lk_L HB.size z ls lo) (hdg : decode cc pc = .ok (.iadd, 1)) (hst : lk_ii (fun x y => some (.int (x + y))) pc lo st h = some q) (kk : lk_k p l e R s m args below meth c cells slots Q HB z dC dI aC lo h q) : W p l e R s m args below meth c H locs cells slots Q (F0 m pc ls (st.map (lk_sv HB.size z))) := by
  obtain ⟨hx, hb, hown, hT, hK, hN, hX, hz, hnm⟩ := id hC
  obtain ⟨x, y, r, v, rfl, h1, rfl⟩ := lk_ii_inv hst
  cases h1
  exact lv_iadd hx hb hdg (kk.same hR hl rfl)
theorem lk_s_isub (hC : lk_C HB z L xs dC dI aC p s m meth c cc own name) (hR : lk_R HB z dC dI aC h H locs) (hl : lk_L HB.size z ls lo) (hdg : decode cc pc = .ok (.isub, 1)) (hst : lk_ii (fun x y => some (.int (x - y))) pc lo st h = some q) (kk : lk_k p l e R s m args below meth c cells slots Q HB z dC dI aC lo h q) : W p l e R s m args below meth c H locs cells slots Q (F0 m pc ls (st.map (lk_sv HB.size z))) := by
  obtain ⟨hx, hb, hown, hT, hK, hN, hX, hz, hnm⟩ := id hC
  obtain ⟨x, y, r, v, rfl, h1, rfl⟩ := lk_ii_inv hst
  cases h1
  exact lv_isub hx hb hdg (kk.same hR hl rfl)
theorem lk_s_imul (hC : lk_C HB z L xs dC dI aC p s m meth c cc own name) (hR : lk_R HB z dC dI aC h H locs) (hl : lk_L HB.size z ls lo) (hdg : decode cc pc = .ok (.imul, 1)) (hst : lk_ii (fun x y => some (.int (x * y))) pc lo st h = some q) (kk : lk_k p l e R s m args below meth c cells slots Q HB z dC dI aC lo h q) : W p l e R s m args below meth c H locs cells slots Q (F0 m pc ls (st.map (lk_sv HB.size z))) := by
  obtain ⟨hx, hb, hown, hT, hK, hN, hX, hz, hnm⟩ := id hC
  obtain ⟨x, y, r, v, rfl, h1, rfl⟩ := lk_ii_inv hst
  cases h1
  exact lv_imul hx hb hdg (kk.same hR hl rfl)
theorem lk_s_iand (hC : lk_C HB z L xs dC dI aC p s m meth c cc own name) (hR : lk_R HB z dC dI aC h H locs) (hl : lk_L HB.size z ls lo) (hdg : decode cc pc = .ok (.iand, 1)) (hst : lk_ii (fun x y => some (.int (x &&& y))) pc lo st h = some q) (kk : lk_k p l e R s m args below meth c cells slots Q HB z dC dI aC lo h q) : W p l e R s m args below meth c H locs cells slots Q (F0 m pc ls (st.map (lk_sv HB.size z))) := by
  obtain ⟨hx, hb, hown, hT, hK, hN, hX, hz, hnm⟩ := id hC
  obtain ⟨x, y, r, v, rfl, h1, rfl⟩ := lk_ii_inv hst
  cases h1
  exact lv_iand hx hb hdg (kk.same hR hl rfl)
theorem lk_s_ior (hC : lk_C HB z L xs dC dI aC p s m meth c cc own name) (hR : lk_R HB z dC dI aC h H locs) (hl : lk_L HB.size z ls lo) (hdg : decode cc pc = .ok (.ior, 1)) (hst : lk_ii (fun x y => some (.int (x ||| y))) pc lo st h = some q) (kk : lk_k p l e R s m args below meth c cells slots Q HB z dC dI aC lo h q) : W p l e R s m args below meth c H locs cells slots Q (F0 m pc ls (st.map (lk_sv HB.size z))) := by
  obtain ⟨hx, hb, hown, hT, hK, hN, hX, hz, hnm⟩ := id hC
  obtain ⟨x, y, r, v, rfl, h1, rfl⟩ := lk_ii_inv hst
  cases h1
  exact lv_ior hx hb hdg (kk.same hR hl rfl)
theorem lk_s_ishl (hC : lk_C HB z L xs dC dI aC p s m meth c cc own name) (hR : lk_R HB z dC dI aC h H locs) (hl : lk_L HB.size z ls lo) (hdg : decode cc pc = .ok (.ishl, 1)) (hst : lk_ii (fun x y => some (.int (x <<< (y &&& 31)))) pc lo st h = some q) (kk : lk_k p l e R s m args below meth c cells slots Q HB z dC dI aC lo h q) : W p l e R s m args below meth c H locs cells slots Q (F0 m pc ls (st.map (lk_sv HB.size z))) := by
  obtain ⟨hx, hb, hown, hT, hK, hN, hX, hz, hnm⟩ := id hC
  obtain ⟨x, y, r, v, rfl, h1, rfl⟩ := lk_ii_inv hst
  cases h1
  exact lv_ishl hx hb hdg (kk.same hR hl rfl)
theorem lk_s_ishr (hC : lk_C HB z L xs dC dI aC p s m meth c cc own name) (hR : lk_R HB z dC dI aC h H locs) (hl : lk_L HB.size z ls lo) (hdg : decode cc pc = .ok (.ishr, 1)) (hst : lk_ii (fun x y => some (.int (x >>> (y &&& 31)))) pc lo st h = some q) (kk : lk_k p l e R s m args below meth c cells slots Q HB z dC dI aC lo h q) : W p l e R s m args below meth c H locs cells slots Q (F0 m pc ls (st.map (lk_sv HB.size z))) := by
  obtain ⟨hx, hb, hown, hT, hK, hN, hX, hz, hnm⟩ := id hC
  obtain ⟨x, y, r, v, rfl, h1, rfl⟩ := lk_ii_inv hst
  cases h1
  exact lv_ishr hx hb hdg (kk.same hR hl rfl)
theorem lk_s_idiv (hC : lk_C HB z L xs dC dI aC p s m meth c cc own name) (hR : lk_R HB z dC dI aC h H locs) (hl : lk_L HB.size z ls lo) (hdg : decode cc pc = .ok (.idiv, 1)) (hst : lk_ii (fun x y => if y = 0 then none else some (.int (x / y))) pc lo st h = some q) (kk : lk_k p l e R s m args below meth c cells slots Q HB z dC dI aC lo h q) : W p l e R s m args below meth c H locs cells slots Q (F0 m pc ls (st.map (lk_sv HB.size z))) := by
  obtain ⟨hx, hb, hown, hT, hK, hN, hX, hz, hnm⟩ := id hC
  obtain ⟨x, y, r, v, rfl, h1, rfl⟩ := lk_ii_inv hst
  by_cases hy : y = 0
  · rw [if_pos hy] at h1; cases h1
  · rw [if_neg hy] at h1
    cases h1
    exact lv_idiv hx hb hdg hy (kk.same hR hl rfl)
theorem lk_s_irem (hC : lk_C HB z L xs dC dI aC p s m meth c cc own name) (hR : lk_R HB z dC dI aC h H locs) (hl : lk_L HB.size z ls lo) (hdg : decode cc pc = .ok (.irem, 1)) (hst : lk_ii (fun x y => if y = 0 then none else some (.int (x - x / y * y))) pc lo st h = some q) (kk : lk_k p l e R s m args below meth c cells slots Q HB z dC dI aC lo h q) : W p l e R s m args below meth c H locs cells slots Q (F0 m pc ls (st.map (lk_sv HB.size z))) := by
  obtain ⟨hx, hb, hown, hT, hK, hN, hX, hz, hnm⟩ := id hC
  obtain ⟨x, y, r, v, rfl, h1, rfl⟩ := lk_ii_inv hst
  by_cases hy : y = 0
  · rw [if_pos hy] at h1; cases h1
  · rw [if_neg hy] at h1
    cases h1
    exact lv_irem hx hb hdg hy (kk.same hR hl rfl)
theorem lk_s_ladd (hC : lk_C HB z L xs dC dI aC p s m meth c cc own name) (hR : lk_R HB z dC dI aC h H locs) (hl : lk_L HB.size z ls lo) (hdg : decode cc pc = .ok (.ladd, 1)) (hst : lk_ll (fun x y => some (.long (x + y))) pc lo st h = some q) (kk : lk_k p l e R s m args below meth c cells slots Q HB z dC dI aC lo h q) : W p l e R s m args below meth c H locs cells slots Q (F0 m pc ls (st.map (lk_sv HB.size z))) := by
  obtain ⟨hx, hb, hown, hT, hK, hN, hX, hz, hnm⟩ := id hC
  obtain ⟨x, y, r, v, rfl, h1, rfl⟩ := lk_ll_inv hst
  cases h1
  exact lv_ladd hx hb hdg (kk.same hR hl rfl)
theorem lk_s_lsub (hC : lk_C HB z L xs dC dI aC p s m meth c cc own name) (hR : lk_R HB z dC dI aC h H locs) (hl : lk_L HB.size z ls lo) (hdg : decode cc pc = .ok (.lsub, 1)) (hst : lk_ll (fun x y => some (.long (x - y))) pc lo st h = some q) (kk : lk_k p l e R s m args below meth c cells slots Q HB z dC dI aC lo h q) : W p l e R s m args below meth c H locs cells slots Q (F0 m pc ls (st.map (lk_sv HB.size z))) := by
  obtain ⟨hx, hb, hown, hT, hK, hN, hX, hz, hnm⟩ := id hC
  obtain ⟨x, y, r, v, rfl, h1, rfl⟩ := lk_ll_inv hst
  cases h1
  exact lv_lsub hx hb hdg (kk.same hR hl rfl)
theorem lk_s_lmul (hC : lk_C HB z L xs dC dI aC p s m meth c cc own name) (hR : lk_R HB z dC dI aC h H locs) (hl : lk_L HB.size z ls lo) (hdg : decode cc pc = .ok (.lmul, 1)) (hst : lk_ll (fun x y => some (.long (x * y))) pc lo st h = some q) (kk : lk_k p l e R s m args below meth c cells slots Q HB z dC dI aC lo h q) : W p l e R s m args below meth c H locs cells slots Q (F0 m pc ls (st.map (lk_sv HB.size z))) := by
  obtain ⟨hx, hb, hown, hT, hK, hN, hX, hz, hnm⟩ := id hC
  obtain ⟨x, y, r, v, rfl, h1, rfl⟩ := lk_ll_inv hst
  cases h1
  exact lv_lmul hx hb hdg (kk.same hR hl rfl)
theorem lk_s_lcmp (hC : lk_C HB z L xs dC dI aC p s m meth c cc own name) (hR : lk_R HB z dC dI aC h H locs) (hl : lk_L HB.size z ls lo) (hdg : decode cc pc = .ok (.lcmp, 1)) (hst : lk_ll (fun x y => some (.int (lg_cmp x y))) pc lo st h = some q) (kk : lk_k p l e R s m args below meth c cells slots Q HB z dC dI aC lo h q) : W p l e R s m args below meth c H locs cells slots Q (F0 m pc ls (st.map (lk_sv HB.size z))) := by
  obtain ⟨hx, hb, hown, hT, hK, hN, hX, hz, hnm⟩ := id hC
  obtain ⟨x, y, r, v, rfl, h1, rfl⟩ := lk_ll_inv hst
  cases h1
  exact W.lcmp hx hb hdg (kk.same hR hl rfl)
theorem lk_s_i2l (hC : lk_C HB z L xs dC dI aC p s m meth c cc own name) (hR : lk_R HB z dC dI aC h H locs) (hl : lk_L HB.size z ls lo) (hdg : decode cc pc = .ok (.i2l, 1)) (hst : lk_i1 (fun x => .long x.toInt64) pc lo st h = some q) (kk : lk_k p l e R s m args below meth c cells slots Q HB z dC dI aC lo h q) : W p l e R s m args below meth c H locs cells slots Q (F0 m pc ls (st.map (lk_sv HB.size z))) := by
  obtain ⟨hx, hb, hown, hT, hK, hN, hX, hz, hnm⟩ := id hC
  obtain ⟨x, r, rfl, rfl⟩ := lk_i1_inv hst
  exact lv_i2l hx hb hdg rfl (kk.same hR hl rfl)
theorem lk_s_i2b (hC : lk_C HB z L xs dC dI aC p s m meth c cc own name) (hR : lk_R HB z dC dI aC h H locs) (hl : lk_L HB.size z ls lo) (hdg : decode cc pc = .ok (.i2b, 1)) (hst : lk_i1 (fun x => .int x.toInt8.toInt32) pc lo st h = some q) (kk : lk_k p l e R s m args below meth c cells slots Q HB z dC dI aC lo h q) : W p l e R s m args below meth c H locs cells slots Q (F0 m pc ls (st.map (lk_sv HB.size z))) := by
  obtain ⟨hx, hb, hown, hT, hK, hN, hX, hz, hnm⟩ := id hC
  obtain ⟨x, r, rfl, rfl⟩ := lk_i1_inv hst
  exact lv_i2b hx hb hdg rfl (kk.same hR hl rfl)
theorem lk_s_i2s (hC : lk_C HB z L xs dC dI aC p s m meth c cc own name) (hR : lk_R HB z dC dI aC h H locs) (hl : lk_L HB.size z ls lo) (hdg : decode cc pc = .ok (.i2s, 1)) (hst : lk_i1 (fun x => .int x.toInt16.toInt32) pc lo st h = some q) (kk : lk_k p l e R s m args below meth c cells slots Q HB z dC dI aC lo h q) : W p l e R s m args below meth c H locs cells slots Q (F0 m pc ls (st.map (lk_sv HB.size z))) := by
  obtain ⟨hx, hb, hown, hT, hK, hN, hX, hz, hnm⟩ := id hC
  obtain ⟨x, r, rfl, rfl⟩ := lk_i1_inv hst
  exact lv_i2s hx hb hdg rfl (kk.same hR hl rfl)
end LKS2
end
section
section LKS3
variable {p : Program} {l : Launch} {e : Env} {R : Room} {s : State} {m : MethodId} {args : Array Value} {below : List Frame} {meth : Method} {c : Code} {H : Heap} {locs : List Loc} {cells slots : Nat} {Q : State → Prop}
variable {HB : Heap} {z L : Nat} {xs : Nat → Int32} {dC : Nat → ClassId} {dI : Nat → Nat → Nat} {aC : Nat → ClassId} {cc : ByteArray} {own name : String}
variable {pc : Nat} {lo st : List Value} {h : lk_H} {ls : Array Slot} {inf : lk_I} {q : lk_S}
theorem lk_tyat (aC : Nat → ClassId) {t : Nat} (ht : t ≤ 4) : (lk_tys aC)[t]? = some (aC t, lk_tgT t) := by
  match t, ht with
  | 0, _ => rfl
  | 1, _ => rfl
  | 2, _ => rfl
  | 3, _ => rfl
  | 4, _ => rfl
theorem lk_tgq {t : Nat} (ht : 2 ≤ t) : lk_tgT t = .object (lk_tgC t) := by
  match t, ht with
  | t + 2, _ => rfl
theorem lk_rfsv (b z : Nat) (o : Option Nat) : va_rf (o.map (fun a => b + a)) = lk_sv b z (va_rf o) := by cases o <;> rfl
theorem lk_upmap (b : Nat) (f : Nat → Option Nat) (i : Nat) (o : Option Nat) : (fun k => (va_up f i o k).map (fun a => b + a)) = va_up (fun k => (f k).map (fun a => b + a)) i (o.map (fun a => b + a)) := by
  funext k
  by_cases hk : k = i
  · subst hk; simp [va_up]
  · simp [va_up, hk]
theorem lk_catsum (b z : Nat) (r : List Value) : ((r.map (lk_sv b z)).map fun v => v.category).sum = (r.map fun v => v.category).sum := by
  rw [List.map_map]
  congr 1
  apply List.map_congr_left
  intro v _
  exact lk_sv_cat b z v
theorem lk_uws {C : String} {T : u_T} {N : Nat} : ∀ w ∈ u_ws C T N, lk_kd w = true := by
  intro w hw
  unfold u_ws at hw
  obtain ⟨k, -, rfl⟩ := List.mem_map.mp hw
  unfold u_lay
  split <;> rfl
theorem lk_has_inv {l : List (Nat × Nat)} {c : Nat} (h : lk_has l c = true) : ∃ q ∈ l, q.1 = c := by
  unfold lk_has at h
  obtain ⟨q, h1, h2⟩ := List.any_eq_true.mp h
  exact ⟨q, h1, beq_iff_eq.mp h2⟩
theorem lk_find_inv {l : List (Nat × Nat)} {c v : Nat} (h : lk_find l c = some v) : (c, v) ∈ l := by
  unfold lk_find at h
  cases hf : l.find? (fun q => q.1 == c) with
  | none => rw [hf] at h; cases h
  | some q =>
    rw [hf] at h
    have h1 := List.mem_of_find?_eq_some hf
    have h2 : (q.1 == c) = true := by simpa using List.find?_some hf
    have h3 : q.1 = c := beq_iff_eq.mp h2
    have h4 : q.2 = v := Option.some.inj h
    rw [← h3, ← h4]
    exact h1
theorem lk_cn_of {ci : Nat} {r : vw_C} (h : vwCl[ci]? = some r) : lk_cn ci = r.1 := by unfold lk_cn; rw [h]

theorem lk_s_iaload (hC : lk_C HB z L xs dC dI aC p s m meth c cc own name) (hR : lk_R HB z dC dI aC h H locs) (hl : lk_L HB.size z ls lo) (hdg : decode cc pc = .ok (.iaload, 1)) (hst : lk_aldi (L, xs) pc lo st h = some q) (kk : lk_k p l e R s m args below meth c cells slots Q HB z dC dI aC lo h q) : W p l e R s m args below meth c H locs cells slots Q (F0 m pc ls (st.map (lk_sv HB.size z))) := by
  obtain ⟨hx, hb, hown, hT, hK, hN, hX, hz, hnm⟩ := id hC
  unfold lk_aldi at hst
  split at hst
  · rename_i i a r
    split at hst
    · rename_i n f ha
      split at hst
      · cases hst
      · rename_i hin
        cases hst
        exact va_iald hx hb hK hR.1 a 0 (lk_ws_at ha) (lk_tyat aC (t := 0) (by decide)) hin hdg (kk.same hR hl rfl)
    · cases hst
  · rename_i i k r
    split at hst
    · cases hst
    · rename_i hin
      cases hst
      exact va_sld hx hb hX hz (by omega) hR.2 hin hdg (kk.same hR hl rfl)
  · cases hst
theorem lk_s_iastore (hC : lk_C HB z L xs dC dI aC p s m meth c cc own name) (hR : lk_R HB z dC dI aC h H locs) (hl : lk_L HB.size z ls lo) (hdg : decode cc pc = .ok (.iastore, 1)) (hst : lk_asti pc lo st h = some q) (kk : lk_k p l e R s m args below meth c cells slots Q HB z dC dI aC lo h q) : W p l e R s m args below meth c H locs cells slots Q (F0 m pc ls (st.map (lk_sv HB.size z))) := by
  obtain ⟨hx, hb, hown, hT, hK, hN, hX, hz, hnm⟩ := id hC
  unfold lk_asti at hst
  split at hst
  · rename_i x i a r
    split at hst
    · rename_i n f ha
      split at hst
      · cases hst
      · rename_i hin
        cases hst
        exact va_iast hx hb hK hR.1 (lk_ws_D h) (lk_S.self hR.2) a 0 (lk_ws_at ha) (lk_tyat aC (t := 0) (by decide)) hin hdg (fun H1 locs1 hP hD hS => kk.set ha rfl ⟨by rw [lk_ws_set]; exact hP, lk_S.trans hR.2 hS⟩ hl)
    · cases hst
  · cases hst
theorem lk_s_bastore (hC : lk_C HB z L xs dC dI aC p s m meth c cc own name) (hR : lk_R HB z dC dI aC h H locs) (hl : lk_L HB.size z ls lo) (hdg : decode cc pc = .ok (.bastore, 1)) (hst : lk_astz pc lo st h = some q) (kk : lk_k p l e R s m args below meth c cells slots Q HB z dC dI aC lo h q) : W p l e R s m args below meth c H locs cells slots Q (F0 m pc ls (st.map (lk_sv HB.size z))) := by
  obtain ⟨hx, hb, hown, hT, hK, hN, hX, hz, hnm⟩ := id hC
  unfold lk_astz at hst
  split at hst
  · rename_i x i a r
    split at hst
    · rename_i n f ha
      split at hst
      · cases hst
      · rename_i hin
        cases hst
        exact va_zast hx hb hK hR.1 (lk_ws_D h) (lk_S.self hR.2) a 1 (lk_ws_at ha) (lk_tyat aC (t := 1) (by decide)) hin hdg (fun H1 locs1 hP hD hS => kk.set ha rfl ⟨by rw [lk_ws_set]; exact hP, lk_S.trans hR.2 hS⟩ hl)
    · cases hst
  · cases hst
theorem lk_s_baload (hC : lk_C HB z L xs dC dI aC p s m meth c cc own name) (hR : lk_R HB z dC dI aC h H locs) (hl : lk_L HB.size z ls lo) (hdg : decode cc pc = .ok (.baload, 1)) (hst : lk_aldz pc lo st h = some q) (kk : lk_k p l e R s m args below meth c cells slots Q HB z dC dI aC lo h q) : W p l e R s m args below meth c H locs cells slots Q (F0 m pc ls (st.map (lk_sv HB.size z))) := by
  obtain ⟨hx, hb, hown, hT, hK, hN, hX, hz, hnm⟩ := id hC
  unfold lk_aldz at hst
  split at hst
  · rename_i i a r
    split at hst
    · rename_i n f ha
      split at hst
      · cases hst
      · rename_i hin
        cases hst
        exact va_zald hx hb hK hR.1 a 1 (lk_ws_at ha) (lk_tyat aC (t := 1) (by decide)) hin hdg (kk.same hR hl rfl)
    · cases hst
  · cases hst
theorem lk_s_aaload (hC : lk_C HB z L xs dC dI aC p s m meth c cc own name) (hR : lk_R HB z dC dI aC h H locs) (hl : lk_L HB.size z ls lo) (hdg : decode cc pc = .ok (.aaload, 1)) (hst : lk_alda pc lo st h = some q) (kk : lk_k p l e R s m args below meth c cells slots Q HB z dC dI aC lo h q) : W p l e R s m args below meth c H locs cells slots Q (F0 m pc ls (st.map (lk_sv HB.size z))) := by
  obtain ⟨hx, hb, hown, hT, hK, hN, hX, hz, hnm⟩ := id hC
  unfold lk_alda at hst
  split at hst
  · rename_i i a r
    split at hst
    · rename_i t n f ha
      split at hst
      · cases hst
      · rename_i hin
        split at hst
        · rename_i ht
          cases hst
          have k := kk.same hR hl rfl
          rw [List.map_cons, ← lk_rfsv] at k
          exact va_aldq hx hb hK hR.1 a t (C := lk_tgC t) (lk_ws_at ha) (by rw [lk_tyat aC ht.2, lk_tgq ht.1]) hin hdg k
        · cases hst
    · cases hst
  · cases hst
theorem lk_s_aastore (hC : lk_C HB z L xs dC dI aC p s m meth c cc own name) (hR : lk_R HB z dC dI aC h H locs) (hl : lk_L HB.size z ls lo) (hdg : decode cc pc = .ok (.aastore, 1)) (hst : lk_asta pc lo st h = some q) (kk : lk_k p l e R s m args below meth c cells slots Q HB z dC dI aC lo h q) : W p l e R s m args below meth c H locs cells slots Q (F0 m pc ls (st.map (lk_sv HB.size z))) := by
  obtain ⟨hx, hb, hown, hT, hK, hN, hX, hz, hnm⟩ := id hC
  unfold lk_asta at hst
  split at hst
  · rename_i v i a r
    split at hst
    · rename_i t n f ha
      split at hst
      · cases hst
      · rename_i hin
        split at hst
        · rename_i cv vs hv
          split at hst
          · rename_i hcm
            cases hst
            have hv' := lk_ws_at (b := HB.size) (z := z) (aC := aC) hv
            obtain ⟨rc, hrc, -⟩ := hR.1 v _ hv'
            dsimp only [lk_se] at hrc
            have go : ∀ (H1 : Heap) (locs1 : List Loc), va_P (dC, dI) vwCl ((lk_ws HB.size z aC h).set a (HB.size + a, .inl (aC t, n, .inr (.inr (.inr (.inr (va_up (fun k => (f k).map (fun a => HB.size + a)) i.toNatClampNeg (some (HB.size + v)))))))))  H1 → va_D (fun q : Nat => HB.size ≤ q) ((lk_ws HB.size z aC h).set a (HB.size + a, .inl (aC t, n, .inr (.inr (.inr (.inr (va_up (fun k => (f k).map (fun a => HB.size + a)) i.toNatClampNeg (some (HB.size + v))))))))) → va_S (fun q : Nat => HB.size ≤ q) H H1 locs1 → W p l e R s m args below meth c H1 locs1 cells slots Q (F0 m (pc + 1) ls (r.map (lk_sv HB.size z))) := by
              intro H1 locs1 hP _ hS
              refine kk.set ha rfl ⟨?_, lk_S.trans hR.2 hS⟩ hl
              rw [lk_ws_set]
              have e1 := lk_upmap HB.size f i.toNatClampNeg (some v)
              simp only [lk_se, lk_sa]
              rw [e1]
              exact hP
            match t, hcm, ha, go with
            | 2, hcm, ha, go =>
              have : cv = 8 := by simpa [lk_cm] using hcm
              subst this
              cases hrc
              exact va_astq hx hb hK hR.1 (lk_ws_D h) (lk_S.self hR.2) a 2 v 8 (r := (RX8, TX8, 4)) (lk_ws_at ha) (lk_tyat aC (t := 2) (by decide)) hv' rfl hin hdg go
            | 4, hcm, ha, go =>
              have : cv = 1 := by simpa [lk_cm] using hcm
              subst this
              cases hrc
              exact va_astq hx hb hK hR.1 (lk_ws_D h) (lk_S.self hR.2) a 4 v 1 (r := (RX1, TX1, 5)) (lk_ws_at ha) (lk_tyat aC (t := 4) (by decide)) hv' rfl hin hdg go
            | 3, hcm, ha, go =>
              have hm : cv ∈ lk_thg := by simpa [lk_cm] using hcm
              have hw := lk_thg_ok cv hm
              rw [hrc] at hw
              exact va_astqO hx hb hK hR.1 (lk_ws_D h) (lk_S.self hR.2) a 3 v cv (E := lk_tgC 3) (lk_ws_at ha) (lk_tyat aC (t := 3) (by decide)) (va_Nw.of rfl (hT.use hw rfl args)) hv' hrc hin hdg go
            | 0, hcm, _, _ => simp [lk_cm] at hcm
            | 1, hcm, _, _ => simp [lk_cm] at hcm
            | k + 5, hcm, _, _ => simp [lk_cm] at hcm
          · cases hst
        · cases hst
    · cases hst
  · rename_i i a r
    split at hst
    · rename_i t n f ha
      split at hst
      · cases hst
      · rename_i hin
        split at hst
        · rename_i ht
          cases hst
          refine va_astqN hx hb hK hR.1 (lk_ws_D h) (lk_S.self hR.2) a t (C := lk_tgC t) (lk_ws_at ha) (by rw [lk_tyat aC ht.2, lk_tgq ht.1]) hin hdg (fun H1 locs1 hP _ hS => ?_)
          refine kk.set ha rfl ⟨?_, lk_S.trans hR.2 hS⟩ hl
          rw [lk_ws_set]
          have e1 := lk_upmap HB.size f i.toNatClampNeg none
          simp only [lk_se, lk_sa]
          rw [e1]
          exact hP
        · cases hst
    · cases hst
  · cases hst
theorem lk_s_arraylength (hC : lk_C HB z L xs dC dI aC p s m meth c cc own name) (hR : lk_R HB z dC dI aC h H locs) (hl : lk_L HB.size z ls lo) (hdg : decode cc pc = .ok (.arraylength, 1)) (hst : lk_len (L, xs) pc lo st h = some q) (kk : lk_k p l e R s m args below meth c cells slots Q HB z dC dI aC lo h q) : W p l e R s m args below meth c H locs cells slots Q (F0 m pc ls (st.map (lk_sv HB.size z))) := by
  obtain ⟨hx, hb, hown, hT, hK, hN, hX, hz, hnm⟩ := id hC
  unfold lk_len at hst
  split at hst
  · rename_i a r
    split at hst
    · rename_i t x ha
      split at hst
      · rename_i ht
        cases hst
        exact va_alen hx hb hK hR.1 a t (lk_ws_at ha) (lk_tyat aC ht) rfl hdg (kk.same hR hl rfl)
      · cases hst
    · cases hst
  · rename_i k r
    cases hst
    exact va_slen hx hb hX hz (by omega) hR.2 hdg (kk.same hR hl rfl)
  · cases hst
end LKS3
end
section
section LKS4
variable {p : Program} {l : Launch} {e : Env} {R : Room} {s : State} {m : MethodId} {args : Array Value} {below : List Frame} {meth : Method} {c : Code} {H : Heap} {locs : List Loc} {cells slots : Nat} {Q : State → Prop}
variable {HB : Heap} {z L : Nat} {xs : Nat → Int32} {dC : Nat → ClassId} {dI : Nat → Nat → Nat} {aC : Nat → ClassId} {cc : ByteArray} {own name : String}
variable {pc : Nat} {lo st : List Value} {h : lk_H} {ls : Array Slot} {inf : lk_I} {q : lk_S}
/-- a field's link, by the words of the tables -/
theorem lk_flink {idx ci : Nat} {r : vw_C} {f : Nat × Nat} (hT : lk_T s) (hwd : ∀ w ∈ lk_wf own idx inf.1 f, w ∈ lk_tbl) (hf : f.1 = ci) (hc : vwCl[ci]? = some r) :
    (Cond.fieldLink own idx (lk_rf f.2 (r.2.1 inf.1).1) (r.2.1 inf.1).2.1 (r.2.1 inf.1).2.2.1).before args s = true ∧ ∀ x, s.fieldFound? (r.2.1 inf.1).1 (r.2.1 inf.1).2.1 (r.2.1 inf.1).2.2.1 = some x → s.fieldFound? (lk_rf f.2 (r.2.1 inf.1).1) (r.2.1 inf.1).2.1 (r.2.1 inf.1).2.2.1 = some x := by
  subst hf
  obtain ⟨f1, f2⟩ := f
  unfold lk_wf at hwd
  dsimp only at hwd hc
  rw [hc] at hwd
  dsimp only at hwd
  refine ⟨hT.use (hwd _ List.mem_cons_self) rfl args, ?_⟩
  cases f2 with
  | zero => exact fun x h => h
  | succ n =>
    intro x hx
    exact u_same (hT.use (hwd _ (List.mem_cons_of_mem _ List.mem_cons_self)) rfl args) x hx
theorem lk_fits {ty : FieldType} {v : Value} (b z : Nat) (h : lk_fit (some ty) v = true) : narrow ty (lk_sv b z v) = lk_sv b z v ∧ fits ty (lk_sv b z v) = true := by
  unfold lk_fit at h
  split at h
  · rename_i h1; cases h1; exact ⟨rfl, rfl⟩
  · rename_i x h1
    cases h1
    rcases Bool.or_eq_true _ _ |>.mp h with h2 | h2
    · have := beq_iff_eq.mp h2; subst this; exact ⟨rfl, rfl⟩
    · have := beq_iff_eq.mp h2; subst this; exact ⟨rfl, rfl⟩
  · rename_i h1; cases h1; exact ⟨rfl, rfl⟩
  · rename_i h1; cases h1; exact ⟨rfl, rfl⟩
  · rename_i h1; cases h1; exact ⟨rfl, rfl⟩
  · rename_i h1; cases h1; exact ⟨rfl, rfl⟩
  · cases h

theorem lk_s_getfield (hC : lk_C HB z L xs dC dI aC p s m meth c cc own name) (hR : lk_R HB z dC dI aC h H locs) (hl : lk_L HB.size z ls lo) {idx : Nat} (hdg : decode cc pc = .ok (.getfield idx, 3)) (hwd : ∀ w ∈ lk_wd own (.getfield idx) inf, w ∈ lk_tbl) (hsd : lk_sd own name pc (.getfield idx) inf = true) (hst : lk_getf inf pc lo st h = some q) (kk : lk_k p l e R s m args below meth c cells slots Q HB z dC dI aC lo h q) : W p l e R s m args below meth c H locs cells slots Q (F0 m pc ls (st.map (lk_sv HB.size z))) := by
  obtain ⟨hx, hb, hown, hT, hK, hN, hX, hz, hnm⟩ := id hC
  unfold lk_getf at hst
  split at hst
  · rename_i a r
    split at hst
    · rename_i ci fs ha
      split at hst
      · rename_i hh
        cases hv : fs[inf.1]? with
        | none => rw [hv] at hst; cases hst
        | some v =>
          rw [hv] at hst
          cases hst
          obtain ⟨f, hf1, hf2⟩ := lk_has_inv hh
          obtain ⟨rc, hrc, -⟩ := hR.1 a _ (lk_ws_at ha)
          dsimp only [lk_se] at hrc
          have h1 := lk_flink (args := args) hT (fun w hw => hwd w (List.mem_flatMap.mpr ⟨f, hf1, hw⟩)) hf2 hrc
          have h2 : inf.1 < rc.2.2 := by
            have h3 := List.all_eq_true.mp hsd f hf1
            rw [hf2, hrc] at h3
            exact of_decide_eq_true h3
          have hall := lk_all hrc
          exact va_get hx hb (Ts := u_ws rc.1 rc.2.1 rc.2.2) (fun w hw => hT.use (hall.1 w hw) (lk_uws w hw) args) (fun w hw => hw) hown hK hR.1 a (lk_ws_at ha) hrc inf.1 h2 h1.1 h1.2 (v := lk_sv HB.size z v) (by rw [List.getElem?_map, hv]; rfl) hdg (kk.same hR hl rfl)
      · cases hst
    · cases hst
  · cases hst
theorem lk_s_putfield (hC : lk_C HB z L xs dC dI aC p s m meth c cc own name) (hR : lk_R HB z dC dI aC h H locs) (hl : lk_L HB.size z ls lo) {idx : Nat} (hdg : decode cc pc = .ok (.putfield idx, 3)) (hwd : ∀ w ∈ lk_wd own (.putfield idx) inf, w ∈ lk_tbl) (hsd : lk_sd own name pc (.putfield idx) inf = true) (hst : lk_putf inf pc lo st h = some q) (kk : lk_k p l e R s m args below meth c cells slots Q HB z dC dI aC lo h q) : W p l e R s m args below meth c H locs cells slots Q (F0 m pc ls (st.map (lk_sv HB.size z))) := by
  obtain ⟨hx, hb, hown, hT, hK, hN, hX, hz, hnm⟩ := id hC
  unfold lk_putf at hst
  split at hst
  · rename_i v a r
    split at hst
    · rename_i ci fs ha
      split at hst
      · rename_i hh
        split at hst
        · rename_i hfit
          split at hst
          · rename_i hlt
            cases hst
            obtain ⟨f, hf1, hf2⟩ := lk_has_inv hh
            obtain ⟨rc, hrc, -⟩ := hR.1 a _ (lk_ws_at ha)
            dsimp only [lk_se] at hrc
            have h1 := lk_flink (args := args) hT (fun w hw => hwd w (List.mem_flatMap.mpr ⟨f, hf1, hw⟩)) hf2 hrc
            have h3 := List.all_eq_true.mp hsd f hf1
            rw [hf2, hrc] at h3
            dsimp only at h3
            rw [Bool.and_eq_true] at h3
            have h2 : inf.1 < rc.2.2 := of_decide_eq_true h3.1
            obtain ⟨hall, ty, fs0, ht1, -, -, ht2, ht3, -⟩ := lk_all hrc
            rw [ht1] at hfit
            have h4 := lk_fits HB.size z hfit
            have go : ∀ (H1 : Heap) (locs1 : List Loc), va_P (dC, dI) vwCl ((lk_ws HB.size z aC h).set a (HB.size + a, .inr (ci, (fs.map (lk_sv HB.size z)).set inf.1 (lk_sv HB.size z v)))) H1 → va_D (fun q : Nat => HB.size ≤ q) ((lk_ws HB.size z aC h).set a (HB.size + a, .inr (ci, (fs.map (lk_sv HB.size z)).set inf.1 (lk_sv HB.size z v)))) → va_S (fun q : Nat => HB.size ≤ q) H H1 locs1 → W p l e R s m args below meth c H1 locs1 cells slots Q (F0 m (pc + 3) ls (r.map (lk_sv HB.size z))) := by
              intro H1 locs1 hP _ hS
              refine kk.set ha (by simp [lk_cz]) ⟨?_, lk_S.trans hR.2 hS⟩ hl
              rw [lk_ws_set]
              simp only [lk_se]
              rw [List.map_set]
              exact hP
            have hl2 : inf.1 < (fs.map (lk_sv HB.size z)).length := by rw [List.length_map]; exact hlt
            have h5 := Bool.or_eq_true _ _ |>.mp h3.2
            by_cases hfin : (rc.2.1 inf.1).2.2.2 = true
            · rcases h5 with h5 | h5
              · rw [hfin] at h5; cases h5
              · rw [Bool.and_eq_true] at h5
                exact va_putF hx hb (Ts := u_ws rc.1 rc.2.1 rc.2.2) (fun w hw => hT.use (hall w hw) (lk_uws w hw) args) (fun w hw => hw) ty ht2 ht3 hown hK hR.1 (lk_ws_D h) (lk_S.self hR.2) a (lk_ws_at ha) hrc inf.1 h2 h1.1 h1.2 hfin (hnm.trans (of_decide_eq_true h5.1)) (of_decide_eq_true h5.2) (ht2 _ h2) h4.1 h4.2 hl2 hdg go
            · exact va_put hx hb (Ts := u_ws rc.1 rc.2.1 rc.2.2) (fun w hw => hT.use (hall w hw) (lk_uws w hw) args) (fun w hw => hw) ty ht2 ht3 hown hK hR.1 (lk_ws_D h) (lk_S.self hR.2) a (lk_ws_at ha) hrc inf.1 h2 h1.1 h1.2 (by simpa using hfin) (ht2 _ h2) h4.1 h4.2 hl2 hdg go
          · cases hst
        · cases hst
      · cases hst
    · cases hst
  · cases hst
theorem lk_s_new (hC : lk_C HB z L xs dC dI aC p s m meth c cc own name) (hR : lk_R HB z dC dI aC h H locs) (hl : lk_L HB.size z ls lo) {idx : Nat} (hdg : decode cc pc = .ok (.new idx, 3)) (hwd : ∀ w ∈ lk_wd own (.new idx) inf, w ∈ lk_tbl) (hbd : s.heap.size + cells = HB.size + h.length) (hcl : cells + (q.2.2.2.length - h.length) ≤ R.cells) (hsl : slots + (lk_sz q.2.2.2 - lk_sz h) ≤ R.slots) (hst : lk_new inf.1 pc lo st h = some q) (kk : lk_k p l e R s m args below meth c cells slots Q HB z dC dI aC lo h q) : W p l e R s m args below meth c H locs cells slots Q (F0 m pc ls (st.map (lk_sv HB.size z))) := by
  obtain ⟨hx, hb, hown, hT, hK, hN, hX, hz, hnm⟩ := id hC
  unfold lk_new at hst
  split at hst
  · rename_i fs hfs
    cases hst
    have hlt : inf.1 < lk_df.length := (List.getElem?_eq_some_iff.mp hfs).1
    obtain ⟨rc, hrc⟩ : ∃ rc, vwCl[inf.1]? = some rc := ⟨_, List.getElem?_eq_getElem (l := vwCl) hlt⟩
    obtain ⟨hall, ty, fs0, ht1, hf0, hN0, ht2, ht3, hdf, hdv⟩ := lk_all hrc
    cases hf0.symm.trans hfs
    have hmap : fs.map (lk_sv HB.size z) = fs := by
      conv => rhs; rw [← List.map_id fs]
      apply List.map_congr_left
      intro v hv
      rcases hdv v hv with rfl | rfl <;> rfl
    simp only [lk_wd, hrc] at hwd
    dsimp only at hcl hsl
    rw [lk_sz_app, Nat.add_sub_cancel_left] at hsl
    rw [List.length_append, Nat.add_sub_cancel_left] at hcl
    have hcz : lk_cz (.inr (inf.1, fs)) = rc.2.2 := hN0
    rw [hcz] at hsl
    refine va_new hx hb (Ts := u_ws rc.1 rc.2.1 rc.2.2) (fun w hw => hT.use (hall w hw) (lk_uws w hw) args) (fun w hw => hw) ty ht2 hown (hT.use (w := .classLink own idx rc.1) (hwd _ (by simp)) rfl args) (hT.use (w := .instantiable rc.1 rc.2.2) (hwd _ (by simp)) rfl args) (hT.use (w := .initialized rc.1) (hwd _ (by simp)) rfl args) hK hR.1 (lk_ws_D h) hR.2 (fun q hq => hq) hrc (fs := fs) hdf hcl hsl hdg (fun q1 H1 hP hD hS => ?_)
    refine lk_bound (fun hb1 => ?_)
    have hq1 := lk_fresh (by omega) hP hD
    subst hq1
    have k := kk.push (H := H1) (locs := locs) ⟨by rw [lk_ws_app]; simp only [lk_se]; rw [hmap]; exact hP, hS⟩ hl
    rw [hcz] at k
    exact k
  · cases hst
theorem lk_s_newarray_int (hC : lk_C HB z L xs dC dI aC p s m meth c cc own name) (hR : lk_R HB z dC dI aC h H locs) (hl : lk_L HB.size z ls lo) (hdg : decode cc pc = .ok (.newarray .int, 2)) (hwd : ∀ w ∈ lk_wd own (.newarray .int) inf, w ∈ lk_tbl) (hbd : s.heap.size + cells = HB.size + h.length) (hcl : cells + (q.2.2.2.length - h.length) ≤ R.cells) (hsl : slots + (lk_sz q.2.2.2 - lk_sz h) ≤ R.slots) (hst : lk_newa 0 pc lo st h = some q) (kk : lk_k p l e R s m args below meth c cells slots Q HB z dC dI aC lo h q) : W p l e R s m args below meth c H locs cells slots Q (F0 m pc ls (st.map (lk_sv HB.size z))) := by
  obtain ⟨hx, hb, hown, hT, hK, hN, hX, hz, hnm⟩ := id hC
  unfold lk_newa at hst
  split at hst
  · rename_i n r
    split at hst
    · cases hst
    · rename_i hn
      cases hst
      have hn1 : ¬ n < 0 := fun q => hn (Or.inl q)
      have hn2 : ¬ 65536 < n.toNatClampNeg := fun q => hn (Or.inr q)
      dsimp only at hcl hsl
      rw [lk_sz_app, Nat.add_sub_cancel_left] at hsl
      rw [List.length_append, Nat.add_sub_cancel_left] at hcl
      refine va_newa (atype := .int) hx hb (hT.use (w := .arrayClass .int) (hwd _ List.mem_cons_self) rfl args) (ty := .int) rfl hK hR.1 (lk_ws_D h) hR.2 (fun q hq => hq) (a0 := (n.toNatClampNeg, .inl (fun _ => 0))) (fun cA => rfl) hn1 rfl (by show n.toNatClampNeg * 4 ≤ 536870912; omega) hcl hsl hdg (fun q1 cA H1 hK1 hP hD hS => ?_)
      refine lk_bound (fun hb1 => ?_)
      have hq1 := lk_fresh (by omega) hP hD
      subst hq1
      have h1 := (hK1.2 5 (cA, .int) rfl).2
      have h2 := (hK.2 0 (aC 0, .int) rfl).2
      have h3 : cA = aC 0 := Option.some.inj (Eq.trans (Eq.symm h1) h2)
      subst h3
      exact kk.push (H := H1) (locs := locs) ⟨by rw [lk_ws_app]; exact hP, hS⟩ hl
  · cases hst
theorem lk_s_newarray_boolean (hC : lk_C HB z L xs dC dI aC p s m meth c cc own name) (hR : lk_R HB z dC dI aC h H locs) (hl : lk_L HB.size z ls lo) (hdg : decode cc pc = .ok (.newarray .boolean, 2)) (hwd : ∀ w ∈ lk_wd own (.newarray .boolean) inf, w ∈ lk_tbl) (hbd : s.heap.size + cells = HB.size + h.length) (hcl : cells + (q.2.2.2.length - h.length) ≤ R.cells) (hsl : slots + (lk_sz q.2.2.2 - lk_sz h) ≤ R.slots) (hst : lk_newa 1 pc lo st h = some q) (kk : lk_k p l e R s m args below meth c cells slots Q HB z dC dI aC lo h q) : W p l e R s m args below meth c H locs cells slots Q (F0 m pc ls (st.map (lk_sv HB.size z))) := by
  obtain ⟨hx, hb, hown, hT, hK, hN, hX, hz, hnm⟩ := id hC
  unfold lk_newa at hst
  split at hst
  · rename_i n r
    split at hst
    · cases hst
    · rename_i hn
      cases hst
      have hn1 : ¬ n < 0 := fun q => hn (Or.inl q)
      have hn2 : ¬ 65536 < n.toNatClampNeg := fun q => hn (Or.inr q)
      dsimp only at hcl hsl
      rw [lk_sz_app, Nat.add_sub_cancel_left] at hsl
      rw [List.length_append, Nat.add_sub_cancel_left] at hcl
      refine va_newa (atype := .boolean) hx hb (hT.use (w := .arrayClass .boolean) (hwd _ List.mem_cons_self) rfl args) (ty := .boolean) rfl hK hR.1 (lk_ws_D h) hR.2 (fun q hq => hq) (a0 := (n.toNatClampNeg, .inl (fun _ => 0))) (fun cA => rfl) hn1 rfl (by show n.toNatClampNeg * 1 ≤ 536870912; omega) hcl hsl hdg (fun q1 cA H1 hK1 hP hD hS => ?_)
      refine lk_bound (fun hb1 => ?_)
      have hq1 := lk_fresh (by omega) hP hD
      subst hq1
      have h1 := (hK1.2 5 (cA, .boolean) rfl).2
      have h2 := (hK.2 1 (aC 1, .boolean) rfl).2
      have h3 : cA = aC 1 := Option.some.inj (Eq.trans (Eq.symm h1) h2)
      subst h3
      exact kk.push (H := H1) (locs := locs) ⟨by rw [lk_ws_app]; exact hP, hS⟩ hl
  · cases hst
theorem lk_s_anewarray (hC : lk_C HB z L xs dC dI aC p s m meth c cc own name) (hR : lk_R HB z dC dI aC h H locs) (hl : lk_L HB.size z ls lo) {idx : Nat} (hdg : decode cc pc = .ok (.anewarray idx, 3)) (hwd : ∀ w ∈ lk_wd own (.anewarray idx) inf, w ∈ lk_tbl) (hbd : s.heap.size + cells = HB.size + h.length) (hcl : cells + (q.2.2.2.length - h.length) ≤ R.cells) (hsl : slots + (lk_sz q.2.2.2 - lk_sz h) ≤ R.slots) (hst : lk_newq inf.1 pc lo st h = some q) (kk : lk_k p l e R s m args below meth c cells slots Q HB z dC dI aC lo h q) : W p l e R s m args below meth c H locs cells slots Q (F0 m pc ls (st.map (lk_sv HB.size z))) := by
  obtain ⟨hx, hb, hown, hT, hK, hN, hX, hz, hnm⟩ := id hC
  unfold lk_newq at hst
  split at hst
  · rename_i n r
    split at hst
    · cases hst
    · rename_i hn
      split at hst
      · rename_i ht
        cases hst
        have hn1 : ¬ n < 0 := fun q => hn (Or.inl q)
        have hn2 : ¬ 65536 < n.toNatClampNeg := fun q => hn (Or.inr q)
        dsimp only at hcl hsl
        rw [lk_sz_app, Nat.add_sub_cancel_left] at hsl
        rw [List.length_append, Nat.add_sub_cancel_left] at hcl
        refine va_newq hx hb (C := lk_tgC inf.1) hown (hT.use (w := .classLink own idx (lk_tgC inf.1)) (hwd _ (by simp [lk_wd])) rfl args) (va_AO.of (hT.use (w := .arrayOver (.object (lk_tgC inf.1))) (hwd _ (by simp [lk_wd])) rfl args)) hK hR.1 (lk_ws_D h) hR.2 (fun q hq => hq) hn1 rfl (by omega) hcl hsl hdg (fun q1 cA H1 hK1 hP hD hS => ?_)
        refine lk_bound (fun hb1 => ?_)
        have hq1 := lk_fresh (by omega) hP hD
        subst hq1
        have h1 := (hK1.2 5 (cA, .object (lk_tgC inf.1)) rfl).2
        have h2 := (hK.2 inf.1 (aC inf.1, lk_tgT inf.1) (lk_tyat aC ht.2)).2
        rw [lk_tgq ht.1] at h2
        obtain ⟨_, _, _, _, _, h1⟩ := h1
        obtain ⟨_, _, _, _, _, h2⟩ := h2
        have h3 : cA = aC inf.1 := Option.some.inj (h1.symm.trans h2)
        subst h3
        exact kk.push (H := H1) (locs := locs) ⟨by rw [lk_ws_app]; exact hP, hS⟩ hl
      · cases hst
  · cases hst
theorem lk_s_instanceof (hC : lk_C HB z L xs dC dI aC p s m meth c cc own name) (hR : lk_R HB z dC dI aC h H locs) (hl : lk_L HB.size z ls lo) {idx : Nat} (hdg : decode cc pc = .ok (.instanceof idx, 3)) (hwd : ∀ w ∈ lk_wd own (.instanceof idx) inf, w ∈ lk_tbl) (hsd : lk_sd own name pc (.instanceof idx) inf = true) (hst : lk_inst inf pc lo st h = some q) (kk : lk_k p l e R s m args below meth c cells slots Q HB z dC dI aC lo h q) : W p l e R s m args below meth c H locs cells slots Q (F0 m pc ls (st.map (lk_sv HB.size z))) := by
  obtain ⟨hx, hb, hown, hT, hK, hN, hX, hz, hnm⟩ := id hC
  have hlk : (Cond.classLink own idx (lk_cn inf.1)).before args s = true := hT.use (hwd _ List.mem_cons_self) rfl args
  unfold lk_inst at hst
  split at hst
  · rename_i a r
    split at hst
    · rename_i ci fs ha
      have ha' := lk_ws_at (b := HB.size) (z := z) (aC := aC) ha
      obtain ⟨rc, hrc, -⟩ := hR.1 a _ ha'
      dsimp only [lk_se] at hrc
      have hrv := va_recv hK hR.1 hrc ha'
      have hcn := lk_cn_of hrc
      split at hst
      · rename_i hf
        cases hst
        have hm := lk_find_inv hf
        by_cases hci : ci = inf.1
        · rw [← hci, hcn] at hlk
          exact va_instS hx hb hown hlk (hK.1 ci rc hrc).2 hrv hdg (kk.same hR hl rfl)
        · have hw : Cond.castable (lk_cn ci) (lk_cn inf.1) ∈ lk_tbl := hwd _ (List.mem_cons_of_mem _ (List.mem_flatMap.mpr ⟨(ci, 1), hm, by simp [lk_wi, hci]⟩))
          rw [hcn] at hw
          exact va_instY hx hb hown hlk (va_Nw.of rfl (hT.use hw rfl args)) hrv hdg (kk.same hR hl rfl)
      · rename_i hf
        cases hst
        have hm := lk_find_inv hf
        simp only [lk_sd, Bool.and_eq_true] at hsd
        have h1 := List.all_eq_true.mp hsd.1 (ci, 0) hm
        have h2 : (ci, inf.1) ∈ lk_nc := by simpa using h1
        have h3 := hN _ h2
        dsimp only at h3
        rw [hcn] at h3
        exact va_instNo hx hb hown hlk h3 hrv hdg (kk.same hR hl rfl)
      · cases hst
    · cases hst
  · rename_i r
    cases hst
    exact lv_instN hx hb hdg (kk.same hR hl rfl)
  · cases hst
theorem lk_s_checkcast (hC : lk_C HB z L xs dC dI aC p s m meth c cc own name) (hR : lk_R HB z dC dI aC h H locs) (hl : lk_L HB.size z ls lo) {idx : Nat} (hdg : decode cc pc = .ok (.checkcast idx, 3)) (hwd : ∀ w ∈ lk_wd own (.checkcast idx) inf, w ∈ lk_tbl) (hst : lk_cast inf pc lo st h = some q) (kk : lk_k p l e R s m args below meth c cells slots Q HB z dC dI aC lo h q) : W p l e R s m args below meth c H locs cells slots Q (F0 m pc ls (st.map (lk_sv HB.size z))) := by
  obtain ⟨hx, hb, hown, hT, hK, hN, hX, hz, hnm⟩ := id hC
  have hlk : (Cond.classLink own idx (lk_cn inf.1)).before args s = true := hT.use (hwd _ List.mem_cons_self) rfl args
  unfold lk_cast at hst
  split at hst
  · rename_i a r
    split at hst
    · rename_i ci fs ha
      have ha' := lk_ws_at (b := HB.size) (z := z) (aC := aC) ha
      obtain ⟨rc, hrc, -⟩ := hR.1 a _ ha'
      dsimp only [lk_se] at hrc
      have hrv := va_recv hK hR.1 hrc ha'
      have hcn := lk_cn_of hrc
      split at hst
      · rename_i hf
        cases hst
        have hm := lk_find_inv hf
        by_cases hci : ci = inf.1
        · rw [← hci, hcn] at hlk
          exact va_castS hx hb hown hlk (hK.1 ci rc hrc).2 hrv hdg (kk.same hR hl rfl)
        · have hw : Cond.castable (lk_cn ci) (lk_cn inf.1) ∈ lk_tbl := hwd _ (List.mem_cons_of_mem _ (List.mem_flatMap.mpr ⟨(ci, 1), hm, by simp [lk_wi, hci]⟩))
          rw [hcn] at hw
          exact va_castY hx hb hown hlk (va_Nw.of rfl (hT.use hw rfl args)) hrv hdg (kk.same hR hl rfl)
      · cases hst
    · cases hst
  · rename_i r
    cases hst
    exact lv_castN hx hb hdg (kk.same hR hl rfl)
  · cases hst
theorem lk_s_objInit (hC : lk_C HB z L xs dC dI aC p s m meth c cc own name) (hR : lk_R HB z dC dI aC h H locs) (hl : lk_L HB.size z ls lo) {idx : Nat} (hdg : decode cc pc = .ok (.invokespecial idx, 3)) (hwd : ∀ w ∈ lk_wd own (.invokespecial idx) inf, w ∈ lk_tbl) (hn : c.maxLocals = lo.length) (hfr : 1 ≤ R.frames) (hlo : 64 ≤ R.locals) (hst : lk_obj inf pc lo st h = some q) (kk : lk_k p l e R s m args below meth c cells slots Q HB z dC dI aC lo h q) : W p l e R s m args below meth c H locs cells slots Q (F0 m pc ls (st.map (lk_sv HB.size z))) := by
  obtain ⟨hx, hb, hown, hT, hK, hN, hX, hz, hnm⟩ := id hC
  unfold lk_obj at hst
  split at hst
  · rename_i a r
    split at hst
    · rename_i h100
      split at hst
      · rename_i hcs
        cases hst
        simp only [lk_wd, h100, if_true] at hwd
        have hroom := lv_room (m := m) (pc := pc) (ls := ls) (rest := lk_sv HB.size z (.ref a) :: r.map (lk_sv HB.size z)) (st := r.map (lk_sv HB.size z)) (by rw [lk_catsum]; exact hcs)
        exact W.objInit hx hb hown (hT.use (w := .methodLink own idx objectInit) (hwd _ (by simp)) rfl args) (hT.use (w := .instanceMethod objectInit) (hwd _ (by simp)) rfl args) (hT.use (w := .code objectInit ⟨#[0xb1]⟩ 1 none) (hwd _ (by simp)) rfl args) rfl (hl.1.trans hn.symm) rfl hdg hfr (Nat.le_trans (Nat.add_le_add_right hroom 12) (by omega)) (kk.same hR hl rfl)
      · cases hst
    · cases hst
  · cases hst
theorem lk_s_arraycopy (hC : lk_C HB z L xs dC dI aC p s m meth c cc own name) (hR : lk_R HB z dC dI aC h H locs) (hl : lk_L HB.size z ls lo) {idx : Nat} (hdg : decode cc pc = .ok (.invokestatic idx, 3)) (hwd : ∀ w ∈ lk_wd own (.invokestatic idx) inf, w ∈ lk_tbl) (hn : c.maxLocals = lo.length) (hfr : 1 ≤ R.frames) (hlo : 64 ≤ R.locals) (hst : lk_cpy inf pc lo st h = some q) (kk : lk_k p l e R s m args below meth c cells slots Q HB z dC dI aC lo h q) : W p l e R s m args below meth c H locs cells slots Q (F0 m pc ls (st.map (lk_sv HB.size z))) := by
  obtain ⟨hx, hb, hown, hT, hK, hN, hX, hz, hnm⟩ := id hC
  unfold lk_cpy at hst
  split at hst
  · rename_i n dp a1 sp a0 r
    split at hst
    · rename_i h101
      split at hst
      · rename_i hcs
        split at hst
        · rename_i n0 f ha0
          split at hst
          · rename_i n1 g ha1
            split at hst
            · cases hst
            · rename_i hok
              cases hst
              simp only [lk_wd, h101, if_true] at hwd
              have hnw : nativeFrameWords "java/lang/System" "arraycopy" 5 = 7 := by decide +kernel
              exact va_copyi hx hb (hn.trans hl.1.symm) hown (hT.use (w := .methodLink own idx arraycopyName) (hwd _ (by simp)) rfl args) (hT.use (w := .native arraycopyName) (hwd _ (by simp)) rfl args) (hT.use (w := .static arraycopyName) (hwd _ (by simp)) rfl args) (hT.use (w := .initialized "java/lang/System") (hwd _ (by simp)) rfl args) hK hR.1 (lk_ws_D h) (lk_S.self hR.2) a0 a1 0 0 (ty := .int) (lk_ws_at ha0) (lk_ws_at ha1) (lk_tyat aC (t := 0) (by decide)) (lk_tyat aC (t := 0) (by decide)) rfl (fun q => hok (Or.inl q)) (fun q => hok (Or.inr (Or.inl q))) (fun q => hok (Or.inr (Or.inr (Or.inl q)))) (Nat.not_lt.mp fun q => hok (Or.inr (Or.inr (Or.inr (Or.inl q))))) (Nat.not_lt.mp fun q => hok (Or.inr (Or.inr (Or.inr (Or.inr q))))) (fun i _ => rfl) hfr (by rw [lk_catsum]; omega) hdg (fun H1 locs1 hP _ hS => kk.set ha1 rfl ⟨by rw [lk_ws_set]; exact hP, lk_S.trans hR.2 hS⟩ hl)
          · cases hst
        · cases hst
      · cases hst
    · cases hst
  · cases hst
theorem lk_s_math (hC : lk_C HB z L xs dC dI aC p s m meth c cc own name) (hR : lk_R HB z dC dI aC h H locs) (hl : lk_L HB.size z ls lo) {idx : Nat} (hdg : decode cc pc = .ok (.invokestatic idx, 3)) (hwd : ∀ w ∈ lk_wd own (.invokestatic idx) inf, w ∈ lk_tbl) (hn : c.maxLocals = lo.length) (hfr : 1 ≤ R.frames) (hlo : 64 ≤ R.locals) (hcl : cells ≤ R.cells) (hsl : slots ≤ R.slots) (hst : lk_mm inf pc lo st h = some q) (kk : lk_k p l e R s m args below meth c cells slots Q HB z dC dI aC lo h q) : W p l e R s m args below meth c H locs cells slots Q (F0 m pc ls (st.map (lk_sv HB.size z))) := by
  obtain ⟨hx, hb, hown, hT, hK, hN, hX, hz, hnm⟩ := id hC
  unfold lk_mm at hst
  split at hst
  · rename_i y x r
    split at hst
    · rename_i hcs
      split at hst
      · rename_i h102
        cases hst
        simp only [lk_wd, h102] at hwd
        exact va_mmax hx hb (hn.trans hl.1.symm) hown (hT.use (w := .methodLink own idx Lib.Math.max.name) (hwd _ (by simp)) rfl args) (hT.use (w := .static Lib.Math.max.name) (hwd _ (by simp)) rfl args) (hT.use (w := .initialized "java/lang/Math") (hwd _ (by simp)) rfl args) (hT.use (w := .code Lib.Math.max.name Lib.Math.max.code 2 (some .int)) (hwd _ (by simp)) rfl args) hfr (by rw [lk_catsum]; omega) hcl hsl hdg (kk.same hR hl rfl)
      · split at hst
        · rename_i h103
          cases hst
          simp only [lk_wd, h103] at hwd
          exact va_mmin hx hb (hn.trans hl.1.symm) hown (hT.use (w := .methodLink own idx Lib.Math.min.name) (hwd _ (by simp)) rfl args) (hT.use (w := .static Lib.Math.min.name) (hwd _ (by simp)) rfl args) (hT.use (w := .initialized "java/lang/Math") (hwd _ (by simp)) rfl args) (hT.use (w := .code Lib.Math.min.name Lib.Math.min.code 2 (some .int)) (hwd _ (by simp)) rfl args) hfr (by rw [lk_catsum]; omega) hcl hsl hdg (kk.same hR hl rfl)
        · cases hst
    · cases hst
  · cases hst
end LKS4
end
section
section LKS5
variable {p : Program} {l : Launch} {e : Env} {R : Room} {s : State} {m : MethodId} {args : Array Value} {below : List Frame} {meth : Method} {c : Code} {H : Heap} {locs : List Loc} {cells slots : Nat} {Q : State → Prop}
variable {HB : Heap} {z L : Nat} {xs : Nat → Int32} {dC : Nat → ClassId} {dI : Nat → Nat → Nat} {aC : Nat → ClassId} {cc : ByteArray} {own name : String}
variable {pc : Nat} {lo st : List Value} {h : lk_H} {ls : Array Slot} {inf : lk_I} {q : lk_S}

theorem lk_s_ifCond (hC : lk_C HB z L xs dC dI aC p s m meth c cc own name) (hR : lk_R HB z dC dI aC h H locs) (hl : lk_L HB.size z ls lo) {cd : Jvm.ClassFile.Cond} {off : Int} (hdg : decode cc pc = .ok (.ifCond cd off, 3)) (hsd : (pc : Int) + off = (inf.1 : Int)) (hst : (match st with
    | .int x :: r => lk_if cd x 0 (some (inf.1, lo, r, h)) (some (pc + 3, lo, r, h))
    | _ => none) = some q) (kk : lk_k p l e R s m args below meth c cells slots Q HB z dC dI aC lo h q) : W p l e R s m args below meth c H locs cells slots Q (F0 m pc ls (st.map (lk_sv HB.size z))) := by
  obtain ⟨hx, hb, hown, hT, hK, hN, hX, hz, hnm⟩ := id hC
  split at hst
  · rename_i x r
    cases cd with
    | eq =>
      refine lv_if_eq (tgt := inf.1) hx hb hdg hsd (fun hc => ?_) (fun hc => ?_)
      · simp only [lk_if] at hst
        rw [if_pos hc] at hst
        cases hst
        exact kk.same hR hl rfl
      · simp only [lk_if] at hst
        rw [if_neg hc] at hst
        cases hst
        exact kk.same hR hl rfl
    | ne =>
      refine lv_if_ne (tgt := inf.1) hx hb hdg hsd (fun hc => ?_) (fun hc => ?_)
      · simp only [lk_if] at hst
        rw [if_pos hc] at hst
        cases hst
        exact kk.same hR hl rfl
      · simp only [lk_if] at hst
        rw [if_neg (fun q => q hc)] at hst
        cases hst
        exact kk.same hR hl rfl
    | lt =>
      refine lv_if_lt (tgt := inf.1) hx hb hdg hsd (fun hc => ?_) (fun hc => ?_)
      · simp only [lk_if] at hst
        rw [if_pos hc] at hst
        cases hst
        exact kk.same hR hl rfl
      · simp only [lk_if] at hst
        rw [if_neg hc] at hst
        cases hst
        exact kk.same hR hl rfl
    | ge =>
      refine lv_if_ge (tgt := inf.1) hx hb hdg hsd (fun hc => ?_) (fun hc => ?_)
      · simp only [lk_if] at hst
        rw [if_pos hc] at hst
        cases hst
        exact kk.same hR hl rfl
      · simp only [lk_if] at hst
        rw [if_neg hc] at hst
        cases hst
        exact kk.same hR hl rfl
    | gt =>
      refine lv_if_gt (tgt := inf.1) hx hb hdg hsd (fun hc => ?_) (fun hc => ?_)
      · simp only [lk_if] at hst
        rw [if_pos hc] at hst
        cases hst
        exact kk.same hR hl rfl
      · simp only [lk_if] at hst
        rw [if_neg hc] at hst
        cases hst
        exact kk.same hR hl rfl
    | le =>
      refine lv_if_le (tgt := inf.1) hx hb hdg hsd (fun hc => ?_) (fun hc => ?_)
      · simp only [lk_if] at hst
        rw [if_pos hc] at hst
        cases hst
        exact kk.same hR hl rfl
      · simp only [lk_if] at hst
        rw [if_neg hc] at hst
        cases hst
        exact kk.same hR hl rfl
  · cases hst
theorem lk_s_if_icmp (hC : lk_C HB z L xs dC dI aC p s m meth c cc own name) (hR : lk_R HB z dC dI aC h H locs) (hl : lk_L HB.size z ls lo) {cd : Jvm.ClassFile.Cond} {off : Int} (hdg : decode cc pc = .ok (.if_icmp cd off, 3)) (hsd : (pc : Int) + off = (inf.1 : Int)) (hst : (match st with
    | .int y :: .int x :: r => lk_if cd x y (some (inf.1, lo, r, h)) (some (pc + 3, lo, r, h))
    | _ => none) = some q) (kk : lk_k p l e R s m args below meth c cells slots Q HB z dC dI aC lo h q) : W p l e R s m args below meth c H locs cells slots Q (F0 m pc ls (st.map (lk_sv HB.size z))) := by
  obtain ⟨hx, hb, hown, hT, hK, hN, hX, hz, hnm⟩ := id hC
  split at hst
  · rename_i y x r
    cases cd with
    | eq =>
      refine lv_icmp_eq (tgt := inf.1) hx hb hdg hsd (fun hc => ?_) (fun hc => ?_)
      · simp only [lk_if] at hst
        rw [if_pos hc] at hst
        cases hst
        exact kk.same hR hl rfl
      · simp only [lk_if] at hst
        rw [if_neg hc] at hst
        cases hst
        exact kk.same hR hl rfl
    | ne =>
      refine lv_icmp_ne (tgt := inf.1) hx hb hdg hsd (fun hc => ?_) (fun hc => ?_)
      · simp only [lk_if] at hst
        rw [if_pos hc] at hst
        cases hst
        exact kk.same hR hl rfl
      · simp only [lk_if] at hst
        rw [if_neg (fun q => q hc)] at hst
        cases hst
        exact kk.same hR hl rfl
    | lt =>
      refine lv_icmp_lt (tgt := inf.1) hx hb hdg hsd (fun hc => ?_) (fun hc => ?_)
      · simp only [lk_if] at hst
        rw [if_pos hc] at hst
        cases hst
        exact kk.same hR hl rfl
      · simp only [lk_if] at hst
        rw [if_neg hc] at hst
        cases hst
        exact kk.same hR hl rfl
    | ge =>
      refine lv_icmp_ge (tgt := inf.1) hx hb hdg hsd (fun hc => ?_) (fun hc => ?_)
      · simp only [lk_if] at hst
        rw [if_pos hc] at hst
        cases hst
        exact kk.same hR hl rfl
      · simp only [lk_if] at hst
        rw [if_neg hc] at hst
        cases hst
        exact kk.same hR hl rfl
    | gt =>
      refine lv_icmp_gt (tgt := inf.1) hx hb hdg hsd (fun hc => ?_) (fun hc => ?_)
      · simp only [lk_if] at hst
        rw [if_pos hc] at hst
        cases hst
        exact kk.same hR hl rfl
      · simp only [lk_if] at hst
        rw [if_neg hc] at hst
        cases hst
        exact kk.same hR hl rfl
    | le =>
      refine lv_icmp_le (tgt := inf.1) hx hb hdg hsd (fun hc => ?_) (fun hc => ?_)
      · simp only [lk_if] at hst
        rw [if_pos hc] at hst
        cases hst
        exact kk.same hR hl rfl
      · simp only [lk_if] at hst
        rw [if_neg hc] at hst
        cases hst
        exact kk.same hR hl rfl
  · cases hst
theorem lk_s_ifnull (hC : lk_C HB z L xs dC dI aC p s m meth c cc own name) (hR : lk_R HB z dC dI aC h H locs) (hl : lk_L HB.size z ls lo) {off : Int} (hdg : decode cc pc = .ok (.ifnull off, 3)) (hsd : (pc : Int) + off = (inf.1 : Int)) (hst : (match st with
    | .null :: r => some (inf.1, lo, r, h)
    | .ref _ :: r => some (pc + 3, lo, r, h)
    | _ => none) = some q) (kk : lk_k p l e R s m args below meth c cells slots Q HB z dC dI aC lo h q) : W p l e R s m args below meth c H locs cells slots Q (F0 m pc ls (st.map (lk_sv HB.size z))) := by
  obtain ⟨hx, hb, hown, hT, hK, hN, hX, hz, hnm⟩ := id hC
  split at hst
  · rename_i r
    cases hst
    exact lv_ifnullN hx hb hdg hsd (kk.same hR hl rfl)
  · rename_i a r
    cases hst
    exact lv_ifnull hx hb hdg (kk.same hR hl rfl)
  · cases hst
theorem lk_s_ifnonnull (hC : lk_C HB z L xs dC dI aC p s m meth c cc own name) (hR : lk_R HB z dC dI aC h H locs) (hl : lk_L HB.size z ls lo) {off : Int} (hdg : decode cc pc = .ok (.ifnonnull off, 3)) (hsd : (pc : Int) + off = (inf.1 : Int)) (hst : (match st with
    | .null :: r => some (pc + 3, lo, r, h)
    | .ref _ :: r => some (inf.1, lo, r, h)
    | _ => none) = some q) (kk : lk_k p l e R s m args below meth c cells slots Q HB z dC dI aC lo h q) : W p l e R s m args below meth c H locs cells slots Q (F0 m pc ls (st.map (lk_sv HB.size z))) := by
  obtain ⟨hx, hb, hown, hT, hK, hN, hX, hz, hnm⟩ := id hC
  split at hst
  · rename_i r
    cases hst
    exact lv_ifnonnullN hx hb hdg (kk.same hR hl rfl)
  · rename_i a r
    cases hst
    exact lv_ifnonnull hx hb hdg hsd (kk.same hR hl rfl)
  · cases hst
theorem lk_s_table (hC : lk_C HB z L xs dC dI aC p s m meth c cc own name) (hR : lk_R HB z dC dI aC h H locs) (hl : lk_L HB.size z ls lo) {d lw hi : Int} {offs : Array Int} {len : Nat} (hdg : decode cc pc = .ok (.tableswitch d lw hi offs, len)) (hsd : lk_sd own name pc (.tableswitch d lw hi offs) inf = true) (hst : (match st with
    | .int x :: r => some (lk_sw inf.2.1 inf.1 x, lo, r, h)
    | _ => none) = some q) (kk : lk_k p l e R s m args below meth c cells slots Q HB z dC dI aC lo h q) : W p l e R s m args below meth c H locs cells slots Q (F0 m pc ls (st.map (lk_sv HB.size z))) := by
  obtain ⟨hx, hb, hown, hT, hK, hN, hX, hz, hnm⟩ := id hC
  split at hst
  · rename_i x r
    cases hst
    simp only [lk_sd, Bool.and_eq_true, decide_eq_true_eq] at hsd
    obtain ⟨⟨⟨⟨h1, h2⟩, h3⟩, h4⟩, h5⟩ := hsd
    subst h1
    have hlen : inf.2.1.length = offs.size := by
      have h6 := congrArg List.length h5
      simpa using h6
    have hat : ∀ (k v w : Nat), inf.2.1[k]? = some (v, w) → v = k ∧ ∃ o, offs[k]? = some o ∧ (pc : Int) + o = (w : Int) := by
      intro k v w hk
      have h6 : (inf.2.1.map (fun q => ((q.1 : Int), (q.2 : Int))))[k]? = some ((v : Int), (w : Int)) := by rw [List.getElem?_map, hk]; rfl
      rw [h5, List.getElem?_map, List.getElem?_zipIdx] at h6
      cases ho : offs.toList[k]? with
      | none => rw [ho] at h6; cases h6
      | some o =>
        rw [ho] at h6
        simp only [Option.map_some, Option.some.injEq, Prod.mk.injEq] at h6
        refine ⟨by omega, o, by rw [← Array.getElem?_toList]; exact ho, h6.2⟩
    by_cases hout : x.toInt < 0 ∨ hi < x.toInt
    · refine lv_tableOut hx hb hdg hout (tgt := lk_sw inf.2.1 inf.1 x) ?_ (kk.same hR hl rfl)
      rw [lk_sw_no]
      · exact h3
      · intro q hq hxq
        obtain ⟨k, hk⟩ := List.getElem?_of_mem hq
        have hkl := (List.getElem?_eq_some_iff.mp hk).1
        obtain ⟨h7, -⟩ := hat k q.1 q.2 hk
        have h8 : x.toInt = (q.1 : Int) := by rw [hxq]; exact nI_toInt (by omega)
        rcases hout with h9 | h9 <;> omega
    · have h6 : ¬ x.toInt < 0 := fun q => hout (Or.inl q)
      have h7 : ¬ hi < x.toInt := fun q => hout (Or.inr q)
      have hk : x.toInt.toNat < inf.2.1.length := by omega
      obtain ⟨v, w, hvw⟩ : ∃ v w, inf.2.1[x.toInt.toNat]? = some (v, w) := ⟨_, _, List.getElem?_eq_getElem hk⟩
      obtain ⟨rfl, o, ho, hpo⟩ := hat _ v w hvw
      have hxx : x = Int32.ofNat x.toInt.toNat := Int32.toInt_inj.mp (by rw [show (Int32.ofNat x.toInt.toNat).toInt = (x.toInt.toNat : Int) from nI_toInt (by omega)]; omega)
      have hsw : lk_sw inf.2.1 inf.1 x = w := by
        refine lk_sw_yes hvw hxx (fun k v2 w2 hk2 hlt => ?_)
        obtain ⟨h10, -⟩ := hat k v2 w2 hk2
        intro hq
        have h11 := congrArg Int32.toInt hq
        rw [show (Int32.ofNat x.toInt.toNat).toInt = (x.toInt.toNat : Int) from nI_toInt (by omega), show (Int32.ofNat v2).toInt = (v2 : Int) from nI_toInt (by omega)] at h11
        omega
      refine lv_tableIn hx hb hdg h6 h7 (off := o) (tgt := lk_sw inf.2.1 inf.1 x) (by rw [Int.sub_zero]; exact ho) (by rw [hsw]; exact hpo) (kk.same hR hl rfl)
  · cases hst
theorem lk_s_look (hC : lk_C HB z L xs dC dI aC p s m meth c cc own name) (hR : lk_R HB z dC dI aC h H locs) (hl : lk_L HB.size z ls lo) {d : Int} {ps : Array (Int × Int)} {len : Nat} (hdg : decode cc pc = .ok (.lookupswitch d ps, len)) (hsd : lk_sd own name pc (.lookupswitch d ps) inf = true) (hst : (match st with
    | .int x :: r => some (lk_sw inf.2.1 inf.1 x, lo, r, h)
    | _ => none) = some q) (kk : lk_k p l e R s m args below meth c cells slots Q HB z dC dI aC lo h q) : W p l e R s m args below meth c H locs cells slots Q (F0 m pc ls (st.map (lk_sv HB.size z))) := by
  obtain ⟨hx, hb, hown, hT, hK, hN, hX, hz, hnm⟩ := id hC
  split at hst
  · rename_i x r
    cases hst
    simp only [lk_sd, Bool.and_eq_true, decide_eq_true_eq] at hsd
    obtain ⟨⟨⟨h1, h2⟩, h3⟩, h5⟩ := hsd
    refine lv_lookup hx hb hdg h1 (off := Op.lookupswitch.offset ps.toList d x.toInt) rfl (tgt := lk_sw inf.2.1 inf.1 x) ?_ (kk.same hR hl rfl)
    exact lk_sw_look h2 _ _ h5 (fun q hq => of_decide_eq_true (List.all_eq_true.mp h3 q hq))
  · cases hst
/-- EVERY STEP: what the small machine does the machine does -/
theorem lk_step (hC : lk_C HB z L xs dC dI aC p s m meth c cc own name) (hR : lk_R HB z dC dI aC h H locs) (hl : lk_L HB.size z ls lo) {I : Instr} {len : Nat} (hdg : decode cc pc = .ok (I, len)) (hln : lk_ls I len = true) (hwd : ∀ w ∈ lk_wd own I inf, w ∈ lk_tbl) (hsd : lk_sd own name pc I inf = true) (hn : c.maxLocals = lo.length) (hfr : 1 ≤ R.frames) (hlo : 64 ≤ R.locals) (hbd : s.heap.size + cells = HB.size + h.length) (hcl : cells + (q.2.2.2.length - h.length) ≤ R.cells) (hsl : slots + (lk_sz q.2.2.2 - lk_sz h) ≤ R.slots)
    (hst : lk_st1 (L, xs) I len inf pc lo st h = some q) (kk : lk_k p l e R s m args below meth c cells slots Q HB z dC dI aC lo h q) : W p l e R s m args below meth c H locs cells slots Q (F0 m pc ls (st.map (lk_sv HB.size z))) := by
  obtain ⟨hx, hb, hown, hT, hK, hN, hX, hz, hnm⟩ := id hC
  have key : ∀ k : Nat, lk_ls I len = (len == k) → len = k := fun k hk => by rw [hk] at hln; exact beq_iff_eq.mp hln
  cases I
  case iadd  =>
    obtain rfl := key 1 rfl
    exact lk_s_iadd hC hR hl hdg hst kk
  case isub  =>
    obtain rfl := key 1 rfl
    exact lk_s_isub hC hR hl hdg hst kk
  case imul  =>
    obtain rfl := key 1 rfl
    exact lk_s_imul hC hR hl hdg hst kk
  case idiv  =>
    obtain rfl := key 1 rfl
    exact lk_s_idiv hC hR hl hdg hst kk
  case irem  =>
    obtain rfl := key 1 rfl
    exact lk_s_irem hC hR hl hdg hst kk
  case iand  =>
    obtain rfl := key 1 rfl
    exact lk_s_iand hC hR hl hdg hst kk
  case ior  =>
    obtain rfl := key 1 rfl
    exact lk_s_ior hC hR hl hdg hst kk
  case ishl  =>
    obtain rfl := key 1 rfl
    exact lk_s_ishl hC hR hl hdg hst kk
  case ishr  =>
    obtain rfl := key 1 rfl
    exact lk_s_ishr hC hR hl hdg hst kk
  case ladd  =>
    obtain rfl := key 1 rfl
    exact lk_s_ladd hC hR hl hdg hst kk
  case lsub  =>
    obtain rfl := key 1 rfl
    exact lk_s_lsub hC hR hl hdg hst kk
  case lmul  =>
    obtain rfl := key 1 rfl
    exact lk_s_lmul hC hR hl hdg hst kk
  case lcmp  =>
    obtain rfl := key 1 rfl
    exact lk_s_lcmp hC hR hl hdg hst kk
  case i2l  =>
    obtain rfl := key 1 rfl
    exact lk_s_i2l hC hR hl hdg hst kk
  case i2b  =>
    obtain rfl := key 1 rfl
    exact lk_s_i2b hC hR hl hdg hst kk
  case i2s  =>
    obtain rfl := key 1 rfl
    exact lk_s_i2s hC hR hl hdg hst kk
  case iaload  =>
    obtain rfl := key 1 rfl
    exact lk_s_iaload hC hR hl hdg hst kk
  case iastore  =>
    obtain rfl := key 1 rfl
    exact lk_s_iastore hC hR hl hdg hst kk
  case baload  =>
    obtain rfl := key 1 rfl
    exact lk_s_baload hC hR hl hdg hst kk
  case bastore  =>
    obtain rfl := key 1 rfl
    exact lk_s_bastore hC hR hl hdg hst kk
  case aaload  =>
    obtain rfl := key 1 rfl
    exact lk_s_aaload hC hR hl hdg hst kk
  case aastore  =>
    obtain rfl := key 1 rfl
    exact lk_s_aastore hC hR hl hdg hst kk
  case arraylength  =>
    obtain rfl := key 1 rfl
    exact lk_s_arraylength hC hR hl hdg hst kk
  case iload i =>
    obtain rfl := key 2 rfl
    exact lk_s_iload hC hR hl hdg hst kk
  case iload_n i =>
    obtain rfl := key 1 rfl
    exact lk_s_iload_n hC hR hl hdg hst kk
  case lload i =>
    obtain rfl := key 2 rfl
    exact lk_s_lload hC hR hl hdg hst kk
  case lload_n i =>
    obtain rfl := key 1 rfl
    exact lk_s_lload_n hC hR hl hdg hst kk
  case aload i =>
    obtain rfl := key 2 rfl
    exact lk_s_aload hC hR hl hdg hst kk
  case aload_n i =>
    obtain rfl := key 1 rfl
    exact lk_s_aload_n hC hR hl hdg hst kk
  case istore i =>
    obtain rfl := key 2 rfl
    exact lk_s_istore hC hR hl hdg hst kk
  case istore_n i =>
    obtain rfl := key 1 rfl
    exact lk_s_istore_n hC hR hl hdg hst kk
  case lstore i =>
    obtain rfl := key 2 rfl
    exact lk_s_lstore hC hR hl hdg hst kk
  case astore i =>
    obtain rfl := key 2 rfl
    exact lk_s_astore hC hR hl hdg hst kk
  case astore_n i =>
    obtain rfl := key 1 rfl
    exact lk_s_astore_n hC hR hl hdg hst kk
  case iinc i n =>
    obtain rfl := key 3 rfl
    exact lk_s_iinc hC hR hl hdg (of_decide_eq_true hsd) hst kk
  case iconst i =>
    obtain rfl := key 1 rfl
    cases hst
    have k := kk.same hR hl rfl
    rw [List.map_cons, of_decide_eq_true hsd] at k
    exact lv_iconst hx hb hdg rfl k
  case bipush i =>
    obtain rfl := key 2 rfl
    cases hst
    have k := kk.same hR hl rfl
    rw [List.map_cons, of_decide_eq_true hsd] at k
    exact lv_bipush hx hb hdg rfl k
  case sipush i =>
    obtain rfl := key 3 rfl
    cases hst
    have k := kk.same hR hl rfl
    rw [List.map_cons, of_decide_eq_true hsd] at k
    exact lv_sipush hx hb hdg rfl k
  case lconst i =>
    obtain rfl := key 1 rfl
    cases hst
    have k := kk.same hR hl rfl
    rw [List.map_cons, of_decide_eq_true hsd] at k
    exact lv_lconst hx hb hdg rfl k
  case ldc i =>
    obtain rfl := key 2 rfl
    cases hst
    have k := kk.same hR hl rfl
    rw [List.map_cons] at k
    cases hv : inf.2.2 with
    | int v =>
      rw [hv] at k
      simp only [lk_wd, hv] at hwd
      exact lv_ldc hx hb hown (hT.use (w := .constant own i v) (hwd _ List.mem_cons_self) rfl args) hdg k
    | _ => simp [lk_sd, hv] at hsd
  case ldc2_w i =>
    obtain rfl := key 3 rfl
    cases hst
    have k := kk.same hR hl rfl
    rw [List.map_cons] at k
    cases hv : inf.2.2 with
    | long v =>
      rw [hv] at k
      simp only [lk_wd, hv] at hwd
      exact lv_ldc2 hx hb hown (hT.use (w := .constantLong own i v) (hwd _ List.mem_cons_self) rfl args) hdg k
    | _ => simp [lk_sd, hv] at hsd
  case aconst_null  =>
    obtain rfl := key 1 rfl
    cases hst
    exact lv_null hx hb hdg (kk.same hR hl rfl)
  case l2i  =>
    obtain rfl := key 1 rfl
    simp only [lk_st1] at hst
    split at hst
    · cases hst
      exact lv_l2i hx hb hdg rfl (kk.same hR hl rfl)
    · cases hst
  case dup  =>
    obtain rfl := key 1 rfl
    simp only [lk_st1] at hst
    split at hst
    · split at hst
      · rename_i hv
        cases hst
        exact lv_dup hx hb hdg (by rw [lk_sv_cat]; exact beq_iff_eq.mp hv) (kk.same hR hl rfl)
      · cases hst
    · cases hst
  case dup2  =>
    obtain rfl := key 1 rfl
    simp only [lk_st1] at hst
    split at hst
    · split at hst
      · rename_i hv
        split at hst
        · rename_i hw
          cases hst
          exact lv_dup2_11 hx hb hdg (by rw [lk_sv_cat]; exact beq_iff_eq.mp hv) (by rw [lk_sv_cat]; exact beq_iff_eq.mp hw) (kk.same hR hl rfl)
        · cases hst
      · cases hst
    · cases hst
  case ifCond cd off =>
    obtain rfl := key 3 rfl
    exact lk_s_ifCond hC hR hl hdg (of_decide_eq_true hsd) hst kk
  case if_icmp cd off =>
    obtain rfl := key 3 rfl
    exact lk_s_if_icmp hC hR hl hdg (of_decide_eq_true hsd) hst kk
  case ifnull off =>
    obtain rfl := key 3 rfl
    exact lk_s_ifnull hC hR hl hdg (of_decide_eq_true hsd) hst kk
  case ifnonnull off =>
    obtain rfl := key 3 rfl
    exact lk_s_ifnonnull hC hR hl hdg (of_decide_eq_true hsd) hst kk
  case goto off =>
    obtain rfl := key 3 rfl
    cases hst
    exact lv_goto hx hb hdg (of_decide_eq_true hsd) (kk.same hR hl rfl)
  case tableswitch d lw hi offs =>
    exact lk_s_table hC hR hl hdg hsd hst kk
  case lookupswitch d ps =>
    exact lk_s_look hC hR hl hdg hsd hst kk
  case getfield i =>
    obtain rfl := key 3 rfl
    exact lk_s_getfield hC hR hl hdg hwd hsd hst kk
  case putfield i =>
    obtain rfl := key 3 rfl
    exact lk_s_putfield hC hR hl hdg hwd hsd hst kk
  case new i =>
    obtain rfl := key 3 rfl
    exact lk_s_new hC hR hl hdg hwd hbd hcl hsl hst kk
  case newarray a =>
    obtain rfl := key 2 rfl
    cases a
    case int => exact lk_s_newarray_int hC hR hl hdg hwd hbd hcl hsl hst kk
    case boolean => exact lk_s_newarray_boolean hC hR hl hdg hwd hbd hcl hsl hst kk
    all_goals (simp [lk_st1] at hst)
  case anewarray i =>
    obtain rfl := key 3 rfl
    exact lk_s_anewarray hC hR hl hdg hwd hbd hcl hsl hst kk
  case instanceof i =>
    obtain rfl := key 3 rfl
    exact lk_s_instanceof hC hR hl hdg hwd hsd hst kk
  case checkcast i =>
    obtain rfl := key 3 rfl
    exact lk_s_checkcast hC hR hl hdg hwd hst kk
  case invokespecial i =>
    obtain rfl := key 3 rfl
    exact lk_s_objInit hC hR hl hdg hwd hn hfr hlo hst kk
  case invokestatic i =>
    obtain rfl := key 3 rfl
    simp only [lk_st1] at hst
    split at hst
    · exact lk_s_arraycopy hC hR hl hdg hwd hn hfr hlo hst kk
    · have hq4 : q.2.2.2 = h := by
        unfold lk_mm at hst
        repeat' (split at hst)
        all_goals (cases hst; try rfl)
      rw [hq4, Nat.sub_self, Nat.add_zero] at hcl hsl
      exact lk_s_math hC hR hl hdg hwd hn hfr hlo hcl hsl hst kk
  all_goals (simp [lk_st1] at hst)
end LKS5
end
section
/-! THE TABLES OF THIS CLASS, by program: methods, named methods, code -/
abbrev lk_M : Type := MethodName × ByteArray × Nat × Option FieldType
abbrev lk_E : Type := Instr × Nat × lk_I
/-- LonelyDots$Lonely.<init>([I)V -/
def lk_b0 : List (Option lk_E) := [some (.aload_n 0, 1, (0, [], .null)), some (.aload_n 1, 1, (0, [], .null)), some (.invokespecial 3, 3, (3, [(0, 27)], .ref 0)), none, none, some (.return_, 1, (0, [], .null))]
/-- LonelyDots$Lonely.toldKind()I -/
def lk_b1 : List (Option lk_E) := [some (.iconst 2, 1, (0, [], .int (2))), some (.ireturn, 1, (0, [], .null))]
/-- LonelyDots$Lonely.askMark(LLonelyDots$Trace;)I -/
def lk_b2 : List (Option lk_E) := [some (.aload_n 1, 1, (0, [], .null)), some (.bipush 21, 2, (0, [], .int (21))), none, some (.invokevirtual 9, 3, (1, [(9, 63)], .ref 1)), none, none, some (.iconst 2, 1, (0, [], .int (2))), some (.aload_n 0, 1, (0, [], .null)), some (.aload_n 1, 1, (0, [], .null)), some (.invokespecial 15, 3, (6, [(0, 57)], .ref 2)), none, none, some (.imul, 1, (0, [], .null)), some (.ireturn, 1, (0, [], .null))]
/-- LonelyDots$LonelyList.<init>(I)V -/
def lk_b3 : List (Option lk_E) := [some (.aload_n 0, 1, (0, [], .null)), some (.invokespecial 3, 3, (100, [], .null)), none, none, some (.aload_n 0, 1, (0, [], .null)), some (.sipush 200, 3, (0, [], .int (200))), none, none, some (.newarray .int, 2, (0, [], .null)), none, some (.putfield 11, 3, (2, [(1, 0)], .null)), none, none, some (.aload_n 0, 1, (0, [], .null)), some (.iload_n 1, 1, (0, [], .null)), some (.newarray .int, 2, (0, [], .null)), none, some (.putfield 15, 3, (0, [(1, 0)], .null)), none, none, some (.aload_n 0, 1, (0, [], .null)), some (.iload_n 1, 1, (0, [], .null)), some (.newarray .int, 2, (0, [], .null)), none, some (.putfield 18, 3, (1, [(1, 0)], .null)), none, none, some (.return_, 1, (0, [], .null))]
/-- LonelyDots$LonelyList.searched(I)LLonelyDots$LonelyList; -/
def lk_b4 : List (Option lk_E) := [some (.new 9, 3, (1, [], .null)), none, none, some (.dup, 1, (0, [], .null)), some (.iload_n 0, 1, (0, [], .null)), some (.invokespecial 21, 3, (3, [(0, 3)], .ref 3)), none, none, some (.astore_n 1, 1, (0, [], .null)), some (.aload_n 1, 1, (0, [], .null)), some (.iconst 0, 1, (0, [], .int (0))), some (.invokestatic 24, 3, (0, [(0, 6)], .ref 4)), none, none, some (.aload_n 1, 1, (0, [], .null)), some (.areturn, 1, (0, [], .null))]
/-- LonelyDots$LonelyList.columnsOf(I)[I -/
def lk_b5 : List (Option lk_E) := [some (.aload_n 0, 1, (0, [], .null)), some (.getfield 15, 3, (0, [(1, 0)], .null)), none, none, some (.arraylength, 1, (0, [], .null)), some (.newarray .int, 2, (0, [], .null)), none, some (.astore_n 2, 1, (0, [], .null)), some (.aload_n 0, 1, (0, [], .null)), some (.getfield 11, 3, (2, [(1, 0)], .null)), none, none, some (.iload_n 1, 1, (0, [], .null)), some (.iaload, 1, (0, [], .null)), some (.istore_n 3, 1, (0, [], .null)), some (.aload_n 2, 1, (0, [], .null)), some (.arraylength, 1, (0, [], .null)), some (.iconst 1, 1, (0, [], .int (1))), some (.isub, 1, (0, [], .null)), some (.istore 4, 2, (0, [], .null)), none, some (.iload 4, 2, (0, [], .null)), none, some (.ifCond .lt 21, 3, (44, [], .null)), none, none, some (.aload_n 2, 1, (0, [], .null)), some (.iload 4, 2, (0, [], .null)), none, some (.iload_n 3, 1, (0, [], .null)), some (.bipush 7, 2, (0, [], .int (7))), none, some (.iand, 1, (0, [], .null)), some (.iastore, 1, (0, [], .null)), some (.iload_n 3, 1, (0, [], .null)), some (.iconst 3, 1, (0, [], .int (3))), some (.ishr, 1, (0, [], .null)), some (.istore_n 3, 1, (0, [], .null)), some (.iinc 4 (-1), 3, (0, [], .int (-1))), none, none, some (.goto (-20), 3, (21, [], .null)), none, none, some (.aload_n 2, 1, (0, [], .null)), some (.areturn, 1, (0, [], .null))]
/-- LonelyDots$LonelyList.search(LLonelyDots$LonelyList;I)V -/
def lk_b6 : List (Option lk_E) := [some (.iload_n 1, 1, (0, [], .null)), some (.aload_n 0, 1, (0, [], .null)), some (.getfield 15, 3, (0, [(1, 0)], .null)), none, none, some (.arraylength, 1, (0, [], .null)), some (.if_icmp .lt 8, 3, (14, [], .null)), none, none, some (.aload_n 0, 1, (0, [], .null)), some (.invokevirtual 28, 3, (1, [(1, 8)], .ref 5)), none, none, some (.return_, 1, (0, [], .null)), some (.iconst 0, 1, (0, [], .int (0))), some (.istore_n 2, 1, (0, [], .null)), some (.iload_n 2, 1, (0, [], .null)), some (.aload_n 0, 1, (0, [], .null)), some (.getfield 15, 3, (0, [(1, 0)], .null)), none, none, some (.arraylength, 1, (0, [], .null)), some (.if_icmp .ge 31, 3, (53, [], .null)), none, none, some (.aload_n 0, 1, (0, [], .null)), some (.getfield 15, 3, (0, [(1, 0)], .null)), none, none, some (.iload_n 1, 1, (0, [], .null)), some (.iload_n 2, 1, (0, [], .null)), some (.iastore, 1, (0, [], .null)), some (.aload_n 0, 1, (0, [], .null)), some (.iload_n 1, 1, (0, [], .null)), some (.invokevirtual 31, 3, (1, [(1, 7)], .ref 6)), none, none, some (.ifCond .eq 10, 3, (47, [], .null)), none, none, some (.aload_n 0, 1, (0, [], .null)), some (.iload_n 1, 1, (0, [], .null)), some (.iconst 1, 1, (0, [], .int (1))), some (.iadd, 1, (0, [], .null)), some (.invokestatic 24, 3, (0, [(0, 6)], .ref 4)), none, none, some (.iinc 2 1, 3, (0, [], .int (1))), none, none, some (.goto (-34), 3, (16, [], .null)), none, none, some (.return_, 1, (0, [], .null))]
/-- LonelyDots$LonelyList.isLonelyUpTo(I)Z -/
def lk_b7 : List (Option lk_E) := [some (.iconst 1, 1, (0, [], .int (1))), some (.istore_n 2, 1, (0, [], .null)), some (.iload_n 2, 1, (0, [], .null)), some (.iload_n 1, 1, (0, [], .null)), some (.if_icmp .gt 69, 3, (73, [], .null)), none, none, some (.aload_n 0, 1, (0, [], .null)), some (.getfield 15, 3, (0, [(1, 0)], .null)), none, none, some (.iload_n 1, 1, (0, [], .null)), some (.iaload, 1, (0, [], .null)), some (.aload_n 0, 1, (0, [], .null)), some (.getfield 15, 3, (0, [(1, 0)], .null)), none, none, some (.iload_n 1, 1, (0, [], .null)), some (.iload_n 2, 1, (0, [], .null)), some (.isub, 1, (0, [], .null)), some (.iaload, 1, (0, [], .null)), some (.isub, 1, (0, [], .null)), some (.istore_n 3, 1, (0, [], .null)), some (.iload_n 3, 1, (0, [], .null)), some (.ifCond .ne 5, 3, (29, [], .null)), none, none, some (.iconst 0, 1, (0, [], .int (0))), some (.ireturn, 1, (0, [], .null)), some (.iload_n 2, 1, (0, [], .null)), some (.istore 4, 2, (0, [], .null)), none, some (.iload 4, 2, (0, [], .null)), none, some (.iload_n 1, 1, (0, [], .null)), some (.if_icmp .ge 32, 3, (67, [], .null)), none, none, some (.aload_n 0, 1, (0, [], .null)), some (.getfield 15, 3, (0, [(1, 0)], .null)), none, none, some (.iload 4, 2, (0, [], .null)), none, some (.iaload, 1, (0, [], .null)), some (.aload_n 0, 1, (0, [], .null)), some (.getfield 15, 3, (0, [(1, 0)], .null)), none, none, some (.iload 4, 2, (0, [], .null)), none, some (.iload_n 2, 1, (0, [], .null)), some (.isub, 1, (0, [], .null)), some (.iaload, 1, (0, [], .null)), some (.isub, 1, (0, [], .null)), some (.iload_n 3, 1, (0, [], .null)), some (.if_icmp .ne 5, 3, (61, [], .null)), none, none, some (.iconst 0, 1, (0, [], .int (0))), some (.ireturn, 1, (0, [], .null)), some (.iinc 4 1, 3, (0, [], .int (1))), none, none, some (.goto (-32), 3, (32, [], .null)), none, none, some (.iinc 2 1, 3, (0, [], .int (1))), none, none, some (.goto (-68), 3, (2, [], .null)), none, none, some (.iconst 1, 1, (0, [], .int (1))), some (.ireturn, 1, (0, [], .null))]
/-- LonelyDots$LonelyList.keep()V -/
def lk_b8 : List (Option lk_E) := [some (.aload_n 0, 1, (0, [], .null)), some (.getfield 35, 3, (3, [(1, 0)], .null)), none, none, some (.sipush 200, 3, (0, [], .int (200))), none, none, some (.if_icmp .lt 4, 3, (11, [], .null)), none, none, some (.return_, 1, (0, [], .null)), some (.aload_n 0, 1, (0, [], .null)), some (.getfield 11, 3, (2, [(1, 0)], .null)), none, none, some (.aload_n 0, 1, (0, [], .null)), some (.getfield 35, 3, (3, [(1, 0)], .null)), none, none, some (.aload_n 0, 1, (0, [], .null)), some (.getfield 15, 3, (0, [(1, 0)], .null)), none, none, some (.invokestatic 39, 3, (0, [(0, 10)], .ref 7)), none, none, some (.iastore, 1, (0, [], .null)), some (.aload_n 0, 1, (0, [], .null)), some (.dup, 1, (0, [], .null)), some (.getfield 35, 3, (3, [(1, 0)], .null)), none, none, some (.iconst 1, 1, (0, [], .int (1))), some (.iadd, 1, (0, [], .null)), some (.putfield 35, 3, (3, [(1, 0)], .null)), none, none, some (.aload_n 0, 1, (0, [], .null)), some (.invokevirtual 43, 3, (1, [(1, 9)], .ref 8)), none, none, some (.ifCond .eq 13, 3, (54, [], .null)), none, none, some (.aload_n 0, 1, (0, [], .null)), some (.dup, 1, (0, [], .null)), some (.getfield 47, 3, (4, [(1, 0)], .null)), none, none, some (.iconst 1, 1, (0, [], .int (1))), some (.iadd, 1, (0, [], .null)), some (.putfield 47, 3, (4, [(1, 0)], .null)), none, none, some (.return_, 1, (0, [], .null))]
/-- LonelyDots$LonelyList.isFirstOfItsTurns()Z -/
def lk_b9 : List (Option lk_E) := [some (.aload_n 0, 1, (0, [], .null)), some (.getfield 15, 3, (0, [(1, 0)], .null)), none, none, some (.invokestatic 39, 3, (0, [(0, 10)], .ref 7)), none, none, some (.istore_n 1, 1, (0, [], .null)), some (.iconst 1, 1, (0, [], .int (1))), some (.istore_n 2, 1, (0, [], .null)), some (.iload_n 2, 1, (0, [], .null)), some (.bipush 8, 2, (0, [], .int (8))), none, some (.if_icmp .ge 34, 3, (47, [], .null)), none, none, some (.aload_n 0, 1, (0, [], .null)), some (.getfield 18, 3, (1, [(1, 0)], .null)), none, none, some (.aload_n 0, 1, (0, [], .null)), some (.getfield 15, 3, (0, [(1, 0)], .null)), none, none, some (.iload_n 2, 1, (0, [], .null)), some (.invokestatic 50, 3, (0, [(0, 30)], .ref 9)), none, none, some (.aload_n 0, 1, (0, [], .null)), some (.getfield 18, 3, (1, [(1, 0)], .null)), none, none, some (.invokestatic 39, 3, (0, [(0, 10)], .ref 7)), none, none, some (.iload_n 1, 1, (0, [], .null)), some (.if_icmp .ge 5, 3, (41, [], .null)), none, none, some (.iconst 0, 1, (0, [], .int (0))), some (.ireturn, 1, (0, [], .null)), some (.iinc 2 1, 3, (0, [], .int (1))), none, none, some (.goto (-34), 3, (10, [], .null)), none, none, some (.iconst 1, 1, (0, [], .int (1))), some (.ireturn, 1, (0, [], .null))]
/-- LonelyDots$LonelyList.code([I)I -/
def lk_b10 : List (Option lk_E) := [some (.iconst 0, 1, (0, [], .int (0))), some (.istore_n 1, 1, (0, [], .null)), some (.aload_n 0, 1, (0, [], .null)), some (.astore_n 2, 1, (0, [], .null)), some (.aload_n 2, 1, (0, [], .null)), some (.arraylength, 1, (0, [], .null)), some (.istore_n 3, 1, (0, [], .null)), some (.iconst 0, 1, (0, [], .int (0))), some (.istore 4, 2, (0, [], .null)), none, some (.iload 4, 2, (0, [], .null)), none, some (.iload_n 3, 1, (0, [], .null)), some (.if_icmp .ge 22, 3, (35, [], .null)), none, none, some (.aload_n 2, 1, (0, [], .null)), some (.iload 4, 2, (0, [], .null)), none, some (.iaload, 1, (0, [], .null)), some (.istore 5, 2, (0, [], .null)), none, some (.iload_n 1, 1, (0, [], .null)), some (.iconst 3, 1, (0, [], .int (3))), some (.ishl, 1, (0, [], .null)), some (.iload 5, 2, (0, [], .null)), none, some (.ior, 1, (0, [], .null)), some (.istore_n 1, 1, (0, [], .null)), some (.iinc 4 1, 3, (0, [], .int (1))), none, none, some (.goto (-22), 3, (10, [], .null)), none, none, some (.iload_n 1, 1, (0, [], .null)), some (.ireturn, 1, (0, [], .null))]
/-- LonelyDots$Marks.<init>([I)V -/
def lk_b11 : List (Option lk_E) := [some (.aload_n 0, 1, (0, [], .null)), some (.aload_n 1, 1, (0, [], .null)), some (.invokespecial 3, 3, (3, [(0, 55)], .ref 10)), none, none, some (.return_, 1, (0, [], .null))]
/-- LonelyDots$Marks.told([I)LLonelyDots$Marks; -/
def lk_b12 : List (Option lk_E) := [some (.new 9, 3, (2, [], .null)), none, none, some (.dup, 1, (0, [], .null)), some (.aload_n 0, 1, (0, [], .null)), some (.invokespecial 11, 3, (3, [(0, 11)], .ref 11)), none, none, some (.astore_n 1, 1, (0, [], .null)), some (.aload_n 1, 1, (0, [], .null)), some (.iconst 0, 1, (0, [], .int (0))), some (.invokevirtual 12, 3, (2, [(2, 58), (5, 58), (6, 58)], .ref 12)), none, none, some (.ldc 16, 2, (0, [], .int (-1000000))), none, some (.if_icmp .eq 5, 3, (21, [], .null)), none, none, some (.aload_n 1, 1, (0, [], .null)), some (.areturn, 1, (0, [], .null)), some (.aload_n 1, 1, (0, [], .null)), some (.invokevirtual 17, 3, (2, [(2, 14)], .ref 13)), none, none, some (.ifCond .eq 14, 3, (39, [], .null)), none, none, some (.new 21, 3, (5, [], .null)), none, none, some (.dup, 1, (0, [], .null)), some (.aload_n 0, 1, (0, [], .null)), some (.invokespecial 23, 3, (3, [(0, 39)], .ref 14)), none, none, some (.goto 11, 3, (47, [], .null)), none, none, some (.new 24, 3, (6, [], .null)), none, none, some (.dup, 1, (0, [], .null)), some (.aload_n 0, 1, (0, [], .null)), some (.invokespecial 26, 3, (3, [(0, 42)], .ref 15)), none, none, some (.areturn, 1, (0, [], .null))]
/-- LonelyDots$Marks.rise([I)Z -/
def lk_b13 : List (Option lk_E) := [some (.iconst (-1), 1, (0, [], .int (-1))), some (.istore_n 1, 1, (0, [], .null)), some (.aload_n 0, 1, (0, [], .null)), some (.astore_n 2, 1, (0, [], .null)), some (.aload_n 2, 1, (0, [], .null)), some (.arraylength, 1, (0, [], .null)), some (.istore_n 3, 1, (0, [], .null)), some (.iconst 0, 1, (0, [], .int (0))), some (.istore 4, 2, (0, [], .null)), none, some (.iload 4, 2, (0, [], .null)), none, some (.iload_n 3, 1, (0, [], .null)), some (.if_icmp .ge 34, 3, (47, [], .null)), none, none, some (.aload_n 2, 1, (0, [], .null)), some (.iload 4, 2, (0, [], .null)), none, some (.iaload, 1, (0, [], .null)), some (.istore 5, 2, (0, [], .null)), none, some (.iload 5, 2, (0, [], .null)), none, some (.iload_n 1, 1, (0, [], .null)), some (.if_icmp .le 11, 3, (36, [], .null)), none, none, some (.iload 5, 2, (0, [], .null)), none, some (.sipush 200, 3, (0, [], .int (200))), none, none, some (.if_icmp .le 5, 3, (38, [], .null)), none, none, some (.iconst 0, 1, (0, [], .int (0))), some (.ireturn, 1, (0, [], .null)), some (.iload 5, 2, (0, [], .null)), none, some (.istore_n 1, 1, (0, [], .null)), some (.iinc 4 1, 3, (0, [], .int (1))), none, none, some (.goto (-34), 3, (10, [], .null)), none, none, some (.iconst 1, 1, (0, [], .int (1))), some (.ireturn, 1, (0, [], .null))]
/-- LonelyDots$Marks.hasAllDistances()Z -/
def lk_b14 : List (Option lk_E) := [some (.aload_n 0, 1, (0, [], .null)), some (.getfield 27, 3, (0, [(0, 3), (2, 3), (4, 3), (5, 3), (6, 3)], .null)), none, none, some (.arraylength, 1, (0, [], .null)), some (.istore_n 1, 1, (0, [], .null)), some (.iload_n 1, 1, (0, [], .null)), some (.iload_n 1, 1, (0, [], .null)), some (.iconst 1, 1, (0, [], .int (1))), some (.isub, 1, (0, [], .null)), some (.imul, 1, (0, [], .null)), some (.iconst 2, 1, (0, [], .int (2))), some (.idiv, 1, (0, [], .null)), some (.aload_n 0, 1, (0, [], .null)), some (.getfield 27, 3, (0, [(0, 3), (2, 3), (4, 3), (5, 3), (6, 3)], .null)), none, none, some (.iload_n 1, 1, (0, [], .null)), some (.iconst 1, 1, (0, [], .int (1))), some (.isub, 1, (0, [], .null)), some (.iaload, 1, (0, [], .null)), some (.aload_n 0, 1, (0, [], .null)), some (.getfield 27, 3, (0, [(0, 3), (2, 3), (4, 3), (5, 3), (6, 3)], .null)), none, none, some (.iconst 0, 1, (0, [], .int (0))), some (.iaload, 1, (0, [], .null)), some (.isub, 1, (0, [], .null)), some (.if_icmp .ne 7, 3, (35, [], .null)), none, none, some (.iconst 1, 1, (0, [], .int (1))), some (.goto 4, 3, (36, [], .null)), none, none, some (.iconst 0, 1, (0, [], .int (0))), some (.ireturn, 1, (0, [], .null))]
/-- LonelyDots$Marks.toldKind()I -/
def lk_b15 : List (Option lk_E) := [some (.iconst 3, 1, (0, [], .int (3))), some (.ireturn, 1, (0, [], .null))]
/-- LonelyDots$Marks.secondAlike(III)I -/
def lk_b16 : List (Option lk_E) := [some (.aload_n 0, 1, (0, [], .null)), some (.getfield 27, 3, (0, [(0, 3), (2, 3), (4, 3), (5, 3), (6, 3)], .null)), none, none, some (.iload_n 3, 1, (0, [], .null)), some (.iaload, 1, (0, [], .null)), some (.aload_n 0, 1, (0, [], .null)), some (.getfield 27, 3, (0, [(0, 3), (2, 3), (4, 3), (5, 3), (6, 3)], .null)), none, none, some (.iload_n 2, 1, (0, [], .null)), some (.iaload, 1, (0, [], .null)), some (.iadd, 1, (0, [], .null)), some (.aload_n 0, 1, (0, [], .null)), some (.getfield 27, 3, (0, [(0, 3), (2, 3), (4, 3), (5, 3), (6, 3)], .null)), none, none, some (.iload_n 1, 1, (0, [], .null)), some (.iaload, 1, (0, [], .null)), some (.isub, 1, (0, [], .null)), some (.istore 4, 2, (0, [], .null)), none, some (.iload_n 3, 1, (0, [], .null)), some (.iconst 1, 1, (0, [], .int (1))), some (.iadd, 1, (0, [], .null)), some (.istore 5, 2, (0, [], .null)), none, some (.iload 5, 2, (0, [], .null)), none, some (.aload_n 0, 1, (0, [], .null)), some (.getfield 27, 3, (0, [(0, 3), (2, 3), (4, 3), (5, 3), (6, 3)], .null)), none, none, some (.arraylength, 1, (0, [], .null)), some (.if_icmp .ge 24, 3, (58, [], .null)), none, none, some (.aload_n 0, 1, (0, [], .null)), some (.getfield 27, 3, (0, [(0, 3), (2, 3), (4, 3), (5, 3), (6, 3)], .null)), none, none, some (.iload 5, 2, (0, [], .null)), none, some (.iaload, 1, (0, [], .null)), some (.iload 4, 2, (0, [], .null)), none, some (.if_icmp .ne 6, 3, (52, [], .null)), none, none, some (.iload 5, 2, (0, [], .null)), none, some (.ireturn, 1, (0, [], .null)), some (.iinc 5 1, 3, (0, [], .int (1))), none, none, some (.goto (-28), 3, (27, [], .null)), none, none, some (.iconst (-1), 1, (0, [], .int (-1))), some (.ireturn, 1, (0, [], .null))]
/-- LonelyDots$Marks.askSize(LLonelyDots$Trace;)I -/
def lk_b17 : List (Option lk_E) := [some (.aload_n 1, 1, (0, [], .null)), some (.bipush 12, 2, (0, [], .int (12))), none, some (.invokevirtual 31, 3, (1, [(9, 63)], .ref 1)), none, none, some (.aload_n 0, 1, (0, [], .null)), some (.aload_n 1, 1, (0, [], .null)), some (.invokespecial 37, 3, (5, [(0, 56)], .ref 16)), none, none, some (.aload_n 0, 1, (0, [], .null)), some (.getfield 27, 3, (0, [(0, 3), (2, 3), (4, 3), (5, 3), (6, 3)], .null)), none, none, some (.aload_n 0, 1, (0, [], .null)), some (.getfield 27, 3, (0, [(0, 3), (2, 3), (4, 3), (5, 3), (6, 3)], .null)), none, none, some (.arraylength, 1, (0, [], .null)), some (.iconst 1, 1, (0, [], .int (1))), some (.isub, 1, (0, [], .null)), some (.iaload, 1, (0, [], .null)), some (.iadd, 1, (0, [], .null)), some (.ireturn, 1, (0, [], .null))]
/-- LonelyDots$Marks.askMark(LLonelyDots$Trace;)I -/
def lk_b18 : List (Option lk_E) := [some (.aload_n 1, 1, (0, [], .null)), some (.bipush 22, 2, (0, [], .int (22))), none, some (.invokevirtual 31, 3, (1, [(9, 63)], .ref 1)), none, none, some (.aload_n 0, 1, (0, [], .null)), some (.getfield 27, 3, (0, [(0, 3), (2, 3), (4, 3), (5, 3), (6, 3)], .null)), none, none, some (.arraylength, 1, (0, [], .null)), some (.ireturn, 1, (0, [], .null))]
/-- LonelyDots$Moves.<init>()V -/
def lk_b19 : List (Option lk_E) := [some (.aload_n 0, 1, (0, [], .null)), some (.invokespecial 3, 3, (100, [], .null)), none, none, some (.aload_n 0, 1, (0, [], .null)), some (.bipush 31, 2, (0, [], .int (31))), none, some (.newarray .int, 2, (0, [], .null)), none, some (.putfield 9, 3, (0, [(3, 0)], .null)), none, none, some (.aload_n 0, 1, (0, [], .null)), some (.sipush 441, 3, (0, [], .int (441))), none, none, some (.newarray .int, 2, (0, [], .null)), none, some (.putfield 15, 3, (1, [(3, 0)], .null)), none, none, some (.return_, 1, (0, [], .null))]
/-- LonelyDots$Moves.meetingDots([I[III)I -/
def lk_b20 : List (Option lk_E) := [some (.iconst 0, 1, (0, [], .int (0))), some (.istore 4, 2, (0, [], .null)), none, some (.iconst 0, 1, (0, [], .int (0))), some (.istore 5, 2, (0, [], .null)), none, some (.iload 5, 2, (0, [], .null)), none, some (.aload_n 1, 1, (0, [], .null)), some (.arraylength, 1, (0, [], .null)), some (.if_icmp .ge 43, 3, (53, [], .null)), none, none, some (.iload 5, 2, (0, [], .null)), none, some (.iload_n 2, 1, (0, [], .null)), some (.iadd, 1, (0, [], .null)), some (.istore 6, 2, (0, [], .null)), none, some (.iload 6, 2, (0, [], .null)), none, some (.ifCond .lt 26, 3, (47, [], .null)), none, none, some (.iload 6, 2, (0, [], .null)), none, some (.aload_n 0, 1, (0, [], .null)), some (.arraylength, 1, (0, [], .null)), some (.if_icmp .ge 19, 3, (47, [], .null)), none, none, some (.aload_n 0, 1, (0, [], .null)), some (.iload 6, 2, (0, [], .null)), none, some (.iaload, 1, (0, [], .null)), some (.aload_n 1, 1, (0, [], .null)), some (.iload 5, 2, (0, [], .null)), none, some (.iaload, 1, (0, [], .null)), some (.iload_n 3, 1, (0, [], .null)), some (.iadd, 1, (0, [], .null)), some (.if_icmp .ne 6, 3, (47, [], .null)), none, none, some (.iinc 4 1, 3, (0, [], .int (1))), none, none, some (.iinc 5 1, 3, (0, [], .int (1))), none, none, some (.goto (-44), 3, (6, [], .null)), none, none, some (.iload 4, 2, (0, [], .null)), none, some (.ireturn, 1, (0, [], .null))]
/-- LonelyDots$Moves.mostOfTwo([I[I)I -/
def lk_b21 : List (Option lk_E) := [some (.iconst 0, 1, (0, [], .int (0))), some (.istore_n 3, 1, (0, [], .null)), some (.iconst 1, 1, (0, [], .int (1))), some (.aload_n 2, 1, (0, [], .null)), some (.arraylength, 1, (0, [], .null)), some (.isub, 1, (0, [], .null)), some (.istore 4, 2, (0, [], .null)), none, some (.iload 4, 2, (0, [], .null)), none, some (.aload_n 1, 1, (0, [], .null)), some (.arraylength, 1, (0, [], .null)), some (.if_icmp .ge 22, 3, (34, [], .null)), none, none, some (.iload_n 3, 1, (0, [], .null)), some (.aload_n 0, 1, (0, [], .null)), some (.aload_n 1, 1, (0, [], .null)), some (.aload_n 2, 1, (0, [], .null)), some (.iload 4, 2, (0, [], .null)), none, some (.invokevirtual 18, 3, (1, [(3, 23)], .ref 17)), none, none, some (.invokestatic 22, 3, (102, [], .null)), none, none, some (.istore_n 3, 1, (0, [], .null)), some (.iinc 4 1, 3, (0, [], .int (1))), none, none, some (.goto (-23), 3, (8, [], .null)), none, none, some (.iload_n 3, 1, (0, [], .null)), some (.ireturn, 1, (0, [], .null))]
/-- LonelyDots$Moves.mostWithItself([I)I -/
def lk_b22 : List (Option lk_E) := [some (.iconst 0, 1, (0, [], .int (0))), some (.istore_n 2, 1, (0, [], .null)), some (.iconst 1, 1, (0, [], .int (1))), some (.istore_n 3, 1, (0, [], .null)), some (.iload_n 3, 1, (0, [], .null)), some (.aload_n 1, 1, (0, [], .null)), some (.arraylength, 1, (0, [], .null)), some (.if_icmp .ge 21, 3, (28, [], .null)), none, none, some (.iload_n 2, 1, (0, [], .null)), some (.aload_n 0, 1, (0, [], .null)), some (.aload_n 1, 1, (0, [], .null)), some (.aload_n 1, 1, (0, [], .null)), some (.iload_n 3, 1, (0, [], .null)), some (.invokevirtual 18, 3, (1, [(3, 23)], .ref 17)), none, none, some (.invokestatic 22, 3, (102, [], .null)), none, none, some (.istore_n 2, 1, (0, [], .null)), some (.iinc 3 1, 3, (0, [], .int (1))), none, none, some (.goto (-21), 3, (4, [], .null)), none, none, some (.iload_n 2, 1, (0, [], .null)), some (.ireturn, 1, (0, [], .null))]
/-- LonelyDots$Moves.mostMovedByRows([I[II)I -/
def lk_b23 : List (Option lk_E) := [some (.aload_n 0, 1, (0, [], .null)), some (.getfield 9, 3, (0, [(3, 0)], .null)), none, none, some (.iconst 0, 1, (0, [], .int (0))), some (.invokestatic 28, 3, (0, [(0, 170)], .ref 18)), none, none, some (.iconst 0, 1, (0, [], .int (0))), some (.istore 4, 2, (0, [], .null)), none, some (.iconst 0, 1, (0, [], .int (0))), some (.istore 5, 2, (0, [], .null)), none, some (.iload 5, 2, (0, [], .null)), none, some (.aload_n 2, 1, (0, [], .null)), some (.arraylength, 1, (0, [], .null)), some (.if_icmp .ge 68, 3, (86, [], .null)), none, none, some (.iload 5, 2, (0, [], .null)), none, some (.iload_n 3, 1, (0, [], .null)), some (.iadd, 1, (0, [], .null)), some (.istore 6, 2, (0, [], .null)), none, some (.iload 6, 2, (0, [], .null)), none, some (.ifCond .lt 51, 3, (80, [], .null)), none, none, some (.iload 6, 2, (0, [], .null)), none, some (.aload_n 1, 1, (0, [], .null)), some (.arraylength, 1, (0, [], .null)), some (.if_icmp .ge 44, 3, (80, [], .null)), none, none, some (.aload_n 1, 1, (0, [], .null)), some (.iload 6, 2, (0, [], .null)), none, some (.iaload, 1, (0, [], .null)), some (.aload_n 2, 1, (0, [], .null)), some (.iload 5, 2, (0, [], .null)), none, some (.iaload, 1, (0, [], .null)), some (.isub, 1, (0, [], .null)), some (.bipush 16, 2, (0, [], .int (16))), none, some (.iadd, 1, (0, [], .null)), some (.iconst 1, 1, (0, [], .int (1))), some (.isub, 1, (0, [], .null)), some (.istore 7, 2, (0, [], .null)), none, some (.aload_n 0, 1, (0, [], .null)), some (.getfield 9, 3, (0, [(3, 0)], .null)), none, none, some (.iload 7, 2, (0, [], .null)), none, some (.dup2, 1, (0, [], .null)), some (.iaload, 1, (0, [], .null)), some (.iconst 1, 1, (0, [], .int (1))), some (.iadd, 1, (0, [], .null)), some (.iastore, 1, (0, [], .null)), some (.iload 4, 2, (0, [], .null)), none, some (.aload_n 0, 1, (0, [], .null)), some (.getfield 9, 3, (0, [(3, 0)], .null)), none, none, some (.iload 7, 2, (0, [], .null)), none, some (.iaload, 1, (0, [], .null)), some (.invokestatic 22, 3, (102, [], .null)), none, none, some (.istore 4, 2, (0, [], .null)), none, some (.iinc 5 1, 3, (0, [], .int (1))), none, none, some (.goto (-69), 3, (14, [], .null)), none, none, some (.iload 4, 2, (0, [], .null)), none, some (.ireturn, 1, (0, [], .null))]
/-- LonelyDots$Moves.partOfEcho(I[I[III)I -/
def lk_b24 : List (Option lk_E) := [some (.aload_n 0, 1, (0, [], .null)), some (.getfield 15, 3, (1, [(3, 0)], .null)), none, none, some (.iconst 0, 1, (0, [], .int (0))), some (.invokestatic 28, 3, (0, [(0, 170)], .ref 18)), none, none, some (.iconst 0, 1, (0, [], .int (0))), some (.istore 6, 2, (0, [], .null)), none, some (.iload 6, 2, (0, [], .null)), none, some (.iload 5, 2, (0, [], .null)), none, some (.if_icmp .ge 34, 3, (49, [], .null)), none, none, some (.aload_n 0, 1, (0, [], .null)), some (.aload_n 2, 1, (0, [], .null)), some (.aload_n 3, 1, (0, [], .null)), some (.iload 4, 2, (0, [], .null)), none, some (.iconst 2, 1, (0, [], .int (2))), some (.iload 6, 2, (0, [], .null)), none, some (.imul, 1, (0, [], .null)), some (.iadd, 1, (0, [], .null)), some (.iaload, 1, (0, [], .null)), some (.aload_n 3, 1, (0, [], .null)), some (.iload 4, 2, (0, [], .null)), none, some (.iconst 2, 1, (0, [], .int (2))), some (.iload 6, 2, (0, [], .null)), none, some (.imul, 1, (0, [], .null)), some (.iadd, 1, (0, [], .null)), some (.iconst 1, 1, (0, [], .int (1))), some (.iadd, 1, (0, [], .null)), some (.iaload, 1, (0, [], .null)), some (.invokevirtual 34, 3, (1, [(3, 25)], .ref 19)), none, none, some (.iinc 6 1, 3, (0, [], .int (1))), none, none, some (.goto (-35), 3, (11, [], .null)), none, none, some (.aload_n 0, 1, (0, [], .null)), some (.invokevirtual 38, 3, (1, [(3, 26)], .ref 20)), none, none, some (.istore 6, 2, (0, [], .null)), none, some (.iload_n 1, 1, (0, [], .null)), some (.lookupswitch 40 #[(0, 28), (1, 34)], 28, (96, [(0, 84), (1, 90)], .null)), none, none, none, none, none, none, none, none, none, none, none, none, none, none, none, none, none, none, none, none, none, none, none, none, none, none, none, some (.iload 6, 2, (0, [], .null)), none, some (.bipush 21, 2, (0, [], .int (21))), none, some (.idiv, 1, (0, [], .null)), some (.ireturn, 1, (0, [], .null)), some (.iload 6, 2, (0, [], .null)), none, some (.bipush 21, 2, (0, [], .int (21))), none, some (.irem, 1, (0, [], .null)), some (.ireturn, 1, (0, [], .null)), some (.aload_n 0, 1, (0, [], .null)), some (.getfield 15, 3, (1, [(3, 0)], .null)), none, none, some (.iload 6, 2, (0, [], .null)), none, some (.iaload, 1, (0, [], .null)), some (.ireturn, 1, (0, [], .null))]
/-- LonelyDots$Moves.tallyFits([III)V -/
def lk_b25 : List (Option lk_E) := [some (.iconst 0, 1, (0, [], .int (0))), some (.istore 4, 2, (0, [], .null)), none, some (.iload 4, 2, (0, [], .null)), none, some (.aload_n 1, 1, (0, [], .null)), some (.arraylength, 1, (0, [], .null)), some (.if_icmp .ge 64, 3, (71, [], .null)), none, none, some (.iload_n 2, 1, (0, [], .null)), some (.iload 4, 2, (0, [], .null)), none, some (.isub, 1, (0, [], .null)), some (.istore 5, 2, (0, [], .null)), none, some (.iload_n 3, 1, (0, [], .null)), some (.aload_n 1, 1, (0, [], .null)), some (.iload 4, 2, (0, [], .null)), none, some (.iaload, 1, (0, [], .null)), some (.isub, 1, (0, [], .null)), some (.istore 6, 2, (0, [], .null)), none, some (.iload 5, 2, (0, [], .null)), none, some (.ifCond .lt 39, 3, (65, [], .null)), none, none, some (.iload 5, 2, (0, [], .null)), none, some (.bipush 21, 2, (0, [], .int (21))), none, some (.if_icmp .ge 32, 3, (65, [], .null)), none, none, some (.iload 6, 2, (0, [], .null)), none, some (.ifCond .lt 27, 3, (65, [], .null)), none, none, some (.iload 6, 2, (0, [], .null)), none, some (.bipush 21, 2, (0, [], .int (21))), none, some (.if_icmp .ge 20, 3, (65, [], .null)), none, none, some (.aload_n 0, 1, (0, [], .null)), some (.getfield 15, 3, (1, [(3, 0)], .null)), none, none, some (.iload 5, 2, (0, [], .null)), none, some (.bipush 21, 2, (0, [], .int (21))), none, some (.imul, 1, (0, [], .null)), some (.iload 6, 2, (0, [], .null)), none, some (.iadd, 1, (0, [], .null)), some (.dup2, 1, (0, [], .null)), some (.iaload, 1, (0, [], .null)), some (.iconst 1, 1, (0, [], .int (1))), some (.iadd, 1, (0, [], .null)), some (.iastore, 1, (0, [], .null)), some (.iinc 4 1, 3, (0, [], .int (1))), none, none, some (.goto (-65), 3, (3, [], .null)), none, none, some (.return_, 1, (0, [], .null))]
/-- LonelyDots$Moves.firstBest()I -/
def lk_b26 : List (Option lk_E) := [some (.iconst 0, 1, (0, [], .int (0))), some (.istore_n 1, 1, (0, [], .null)), some (.iconst 1, 1, (0, [], .int (1))), some (.istore_n 2, 1, (0, [], .null)), some (.iload_n 2, 1, (0, [], .null)), some (.aload_n 0, 1, (0, [], .null)), some (.getfield 15, 3, (1, [(3, 0)], .null)), none, none, some (.arraylength, 1, (0, [], .null)), some (.if_icmp .ge 26, 3, (36, [], .null)), none, none, some (.aload_n 0, 1, (0, [], .null)), some (.getfield 15, 3, (1, [(3, 0)], .null)), none, none, some (.iload_n 2, 1, (0, [], .null)), some (.iaload, 1, (0, [], .null)), some (.aload_n 0, 1, (0, [], .null)), some (.getfield 15, 3, (1, [(3, 0)], .null)), none, none, some (.iload_n 1, 1, (0, [], .null)), some (.iaload, 1, (0, [], .null)), some (.if_icmp .le 5, 3, (30, [], .null)), none, none, some (.iload_n 2, 1, (0, [], .null)), some (.istore_n 1, 1, (0, [], .null)), some (.iinc 2 1, 3, (0, [], .int (1))), none, none, some (.goto (-29), 3, (4, [], .null)), none, none, some (.iload_n 1, 1, (0, [], .null)), some (.ireturn, 1, (0, [], .null))]
/-- LonelyDots$Order.<init>([I)V -/
def lk_b27 : List (Option lk_E) := [some (.aload_n 0, 1, (0, [], .null)), some (.aload_n 1, 1, (0, [], .null)), some (.invokespecial 3, 3, (3, [(0, 55)], .ref 10)), none, none, some (.return_, 1, (0, [], .null))]
/-- LonelyDots$Order.told([I)LLonelyDots$Order; -/
def lk_b28 : List (Option lk_E) := [some (.new 9, 3, (4, [], .null)), none, none, some (.dup, 1, (0, [], .null)), some (.aload_n 0, 1, (0, [], .null)), some (.invokespecial 11, 3, (3, [(0, 27)], .ref 0)), none, none, some (.astore_n 1, 1, (0, [], .null)), some (.aload_n 1, 1, (0, [], .null)), some (.iconst 0, 1, (0, [], .int (0))), some (.invokevirtual 12, 3, (2, [(0, 58), (4, 58)], .ref 21)), none, none, some (.ldc 16, 2, (0, [], .int (-1000000))), none, some (.if_icmp .ne 14, 3, (30, [], .null)), none, none, some (.new 17, 3, (0, [], .null)), none, none, some (.dup, 1, (0, [], .null)), some (.aload_n 0, 1, (0, [], .null)), some (.invokespecial 19, 3, (3, [(0, 0)], .ref 22)), none, none, some (.goto 4, 3, (31, [], .null)), none, none, some (.aload_n 1, 1, (0, [], .null)), some (.areturn, 1, (0, [], .null))]
/-- LonelyDots$Order.hasEachColumnOnce([I)Z -/
def lk_b29 : List (Option lk_E) := [some (.iconst 0, 1, (0, [], .int (0))), some (.istore_n 1, 1, (0, [], .null)), some (.aload_n 0, 1, (0, [], .null)), some (.astore_n 2, 1, (0, [], .null)), some (.aload_n 2, 1, (0, [], .null)), some (.arraylength, 1, (0, [], .null)), some (.istore_n 3, 1, (0, [], .null)), some (.iconst 0, 1, (0, [], .int (0))), some (.istore 4, 2, (0, [], .null)), none, some (.iload 4, 2, (0, [], .null)), none, some (.iload_n 3, 1, (0, [], .null)), some (.if_icmp .ge 45, 3, (58, [], .null)), none, none, some (.aload_n 2, 1, (0, [], .null)), some (.iload 4, 2, (0, [], .null)), none, some (.iaload, 1, (0, [], .null)), some (.istore 5, 2, (0, [], .null)), none, some (.iload 5, 2, (0, [], .null)), none, some (.ifCond .lt 19, 3, (43, [], .null)), none, none, some (.iload 5, 2, (0, [], .null)), none, some (.aload_n 0, 1, (0, [], .null)), some (.arraylength, 1, (0, [], .null)), some (.if_icmp .ge 12, 3, (43, [], .null)), none, none, some (.iload_n 1, 1, (0, [], .null)), some (.iload 5, 2, (0, [], .null)), none, some (.ishr, 1, (0, [], .null)), some (.iconst 1, 1, (0, [], .int (1))), some (.iand, 1, (0, [], .null)), some (.ifCond .eq 5, 3, (45, [], .null)), none, none, some (.iconst 0, 1, (0, [], .int (0))), some (.ireturn, 1, (0, [], .null)), some (.iload_n 1, 1, (0, [], .null)), some (.iconst 1, 1, (0, [], .int (1))), some (.iload 5, 2, (0, [], .null)), none, some (.ishl, 1, (0, [], .null)), some (.ior, 1, (0, [], .null)), some (.istore_n 1, 1, (0, [], .null)), some (.iinc 4 1, 3, (0, [], .int (1))), none, none, some (.goto (-45), 3, (10, [], .null)), none, none, some (.iconst 1, 1, (0, [], .int (1))), some (.ireturn, 1, (0, [], .null))]
/-- LonelyDots$Order.turnInto([I[II)V -/
def lk_b30 : List (Option lk_E) := [some (.aload_n 1, 1, (0, [], .null)), some (.arraylength, 1, (0, [], .null)), some (.iconst 1, 1, (0, [], .int (1))), some (.isub, 1, (0, [], .null)), some (.istore_n 3, 1, (0, [], .null)), some (.iconst 0, 1, (0, [], .int (0))), some (.istore 4, 2, (0, [], .null)), none, some (.iload 4, 2, (0, [], .null)), none, some (.aload_n 1, 1, (0, [], .null)), some (.arraylength, 1, (0, [], .null)), some (.if_icmp .ge 68, 3, (80, [], .null)), none, none, some (.iload_n 2, 1, (0, [], .null)), some (.iconst 1, 1, (0, [], .int (1))), some (.iand, 1, (0, [], .null)), some (.ifCond .eq 10, 3, (28, [], .null)), none, none, some (.iload_n 3, 1, (0, [], .null)), some (.iload 4, 2, (0, [], .null)), none, some (.isub, 1, (0, [], .null)), some (.goto 5, 3, (30, [], .null)), none, none, some (.iload 4, 2, (0, [], .null)), none, some (.istore 5, 2, (0, [], .null)), none, some (.iload_n 2, 1, (0, [], .null)), some (.iconst 2, 1, (0, [], .int (2))), some (.iand, 1, (0, [], .null)), some (.ifCond .eq 12, 3, (47, [], .null)), none, none, some (.iload_n 3, 1, (0, [], .null)), some (.aload_n 1, 1, (0, [], .null)), some (.iload 4, 2, (0, [], .null)), none, some (.iaload, 1, (0, [], .null)), some (.isub, 1, (0, [], .null)), some (.goto 7, 3, (51, [], .null)), none, none, some (.aload_n 1, 1, (0, [], .null)), some (.iload 4, 2, (0, [], .null)), none, some (.iaload, 1, (0, [], .null)), some (.istore 6, 2, (0, [], .null)), none, some (.iload_n 2, 1, (0, [], .null)), some (.iconst 4, 1, (0, [], .int (4))), some (.iand, 1, (0, [], .null)), some (.ifCond .eq 12, 3, (68, [], .null)), none, none, some (.aload_n 0, 1, (0, [], .null)), some (.iload 6, 2, (0, [], .null)), none, some (.iload 5, 2, (0, [], .null)), none, some (.iastore, 1, (0, [], .null)), some (.goto 9, 3, (74, [], .null)), none, none, some (.aload_n 0, 1, (0, [], .null)), some (.iload 5, 2, (0, [], .null)), none, some (.iload 6, 2, (0, [], .null)), none, some (.iastore, 1, (0, [], .null)), some (.iinc 4 1, 3, (0, [], .int (1))), none, none, some (.goto (-69), 3, (8, [], .null)), none, none, some (.return_, 1, (0, [], .null))]
/-- LonelyDots$Order.toldKind()I -/
def lk_b31 : List (Option lk_E) := [some (.iconst 1, 1, (0, [], .int (1))), some (.ireturn, 1, (0, [], .null))]
/-- LonelyDots$Order.secondAlike(III)I -/
def lk_b32 : List (Option lk_E) := [some (.iload_n 3, 1, (0, [], .null)), some (.iload_n 2, 1, (0, [], .null)), some (.iadd, 1, (0, [], .null)), some (.iload_n 1, 1, (0, [], .null)), some (.isub, 1, (0, [], .null)), some (.istore 4, 2, (0, [], .null)), none, some (.iload 4, 2, (0, [], .null)), none, some (.aload_n 0, 1, (0, [], .null)), some (.getfield 20, 3, (0, [(0, 5), (2, 5), (4, 5), (5, 5), (6, 5)], .null)), none, none, some (.arraylength, 1, (0, [], .null)), some (.if_icmp .lt 5, 3, (19, [], .null)), none, none, some (.iconst (-1), 1, (0, [], .int (-1))), some (.ireturn, 1, (0, [], .null)), some (.aload_n 0, 1, (0, [], .null)), some (.getfield 20, 3, (0, [(0, 5), (2, 5), (4, 5), (5, 5), (6, 5)], .null)), none, none, some (.iload 4, 2, (0, [], .null)), none, some (.iaload, 1, (0, [], .null)), some (.aload_n 0, 1, (0, [], .null)), some (.getfield 20, 3, (0, [(0, 5), (2, 5), (4, 5), (5, 5), (6, 5)], .null)), none, none, some (.iload_n 3, 1, (0, [], .null)), some (.iaload, 1, (0, [], .null)), some (.isub, 1, (0, [], .null)), some (.aload_n 0, 1, (0, [], .null)), some (.getfield 20, 3, (0, [(0, 5), (2, 5), (4, 5), (5, 5), (6, 5)], .null)), none, none, some (.iload_n 2, 1, (0, [], .null)), some (.iaload, 1, (0, [], .null)), some (.aload_n 0, 1, (0, [], .null)), some (.getfield 20, 3, (0, [(0, 5), (2, 5), (4, 5), (5, 5), (6, 5)], .null)), none, none, some (.iload_n 1, 1, (0, [], .null)), some (.iaload, 1, (0, [], .null)), some (.isub, 1, (0, [], .null)), some (.if_icmp .ne 8, 3, (54, [], .null)), none, none, some (.iload 4, 2, (0, [], .null)), none, some (.goto 4, 3, (55, [], .null)), none, none, some (.iconst (-1), 1, (0, [], .int (-1))), some (.ireturn, 1, (0, [], .null))]
/-- LonelyDots$Order.askSize(LLonelyDots$Trace;)I -/
def lk_b33 : List (Option lk_E) := [some (.aload_n 1, 1, (0, [], .null)), some (.bipush 11, 2, (0, [], .int (11))), none, some (.invokevirtual 24, 3, (1, [(9, 63)], .ref 1)), none, none, some (.aload_n 0, 1, (0, [], .null)), some (.getfield 20, 3, (0, [(0, 5), (2, 5), (4, 5), (5, 5), (6, 5)], .null)), none, none, some (.arraylength, 1, (0, [], .null)), some (.ireturn, 1, (0, [], .null))]
/-- LonelyDots$Order.hasDotInCorner(I)Z -/
def lk_b34 : List (Option lk_E) := [some (.aload_n 0, 1, (0, [], .null)), some (.getfield 20, 3, (0, [(0, 5), (2, 5), (4, 5), (5, 5), (6, 5)], .null)), none, none, some (.arraylength, 1, (0, [], .null)), some (.iconst 1, 1, (0, [], .int (1))), some (.isub, 1, (0, [], .null)), some (.istore_n 2, 1, (0, [], .null)), some (.iload_n 1, 1, (0, [], .null)), some (.invokestatic 30, 3, (0, [(0, 37)], .ref 23)), none, none, some (.ifCond .eq 7, 3, (19, [], .null)), none, none, some (.iload_n 2, 1, (0, [], .null)), some (.goto 4, 3, (20, [], .null)), none, none, some (.iconst 0, 1, (0, [], .int (0))), some (.istore_n 3, 1, (0, [], .null)), some (.iload_n 1, 1, (0, [], .null)), some (.invokestatic 34, 3, (0, [(0, 38)], .ref 24)), none, none, some (.ifCond .eq 7, 3, (32, [], .null)), none, none, some (.iload_n 2, 1, (0, [], .null)), some (.goto 4, 3, (33, [], .null)), none, none, some (.iconst 0, 1, (0, [], .int (0))), some (.istore 4, 2, (0, [], .null)), none, some (.aload_n 0, 1, (0, [], .null)), some (.getfield 20, 3, (0, [(0, 5), (2, 5), (4, 5), (5, 5), (6, 5)], .null)), none, none, some (.iload_n 3, 1, (0, [], .null)), some (.iaload, 1, (0, [], .null)), some (.iload 4, 2, (0, [], .null)), none, some (.if_icmp .ne 7, 3, (50, [], .null)), none, none, some (.iconst 1, 1, (0, [], .int (1))), some (.goto 4, 3, (51, [], .null)), none, none, some (.iconst 0, 1, (0, [], .int (0))), some (.ireturn, 1, (0, [], .null))]
/-- LonelyDots$Order.columnsWithoutCorner(I)[I -/
def lk_b35 : List (Option lk_E) := [some (.aload_n 0, 1, (0, [], .null)), some (.getfield 20, 3, (0, [(0, 5), (2, 5), (4, 5), (5, 5), (6, 5)], .null)), none, none, some (.arraylength, 1, (0, [], .null)), some (.iconst 1, 1, (0, [], .int (1))), some (.isub, 1, (0, [], .null)), some (.newarray .int, 2, (0, [], .null)), none, some (.astore_n 2, 1, (0, [], .null)), some (.iload_n 1, 1, (0, [], .null)), some (.invokestatic 30, 3, (0, [(0, 37)], .ref 23)), none, none, some (.ifCond .eq 7, 3, (21, [], .null)), none, none, some (.iconst 0, 1, (0, [], .int (0))), some (.goto 4, 3, (22, [], .null)), none, none, some (.iconst 1, 1, (0, [], .int (1))), some (.istore_n 3, 1, (0, [], .null)), some (.iload_n 1, 1, (0, [], .null)), some (.invokestatic 34, 3, (0, [(0, 38)], .ref 24)), none, none, some (.ifCond .eq 7, 3, (34, [], .null)), none, none, some (.iconst 0, 1, (0, [], .int (0))), some (.goto 4, 3, (35, [], .null)), none, none, some (.iconst 1, 1, (0, [], .int (1))), some (.istore 4, 2, (0, [], .null)), none, some (.iconst 0, 1, (0, [], .int (0))), some (.istore 5, 2, (0, [], .null)), none, some (.iload 5, 2, (0, [], .null)), none, some (.aload_n 2, 1, (0, [], .null)), some (.arraylength, 1, (0, [], .null)), some (.if_icmp .ge 25, 3, (69, [], .null)), none, none, some (.aload_n 2, 1, (0, [], .null)), some (.iload 5, 2, (0, [], .null)), none, some (.aload_n 0, 1, (0, [], .null)), some (.getfield 20, 3, (0, [(0, 5), (2, 5), (4, 5), (5, 5), (6, 5)], .null)), none, none, some (.iload 5, 2, (0, [], .null)), none, some (.iload_n 3, 1, (0, [], .null)), some (.iadd, 1, (0, [], .null)), some (.iaload, 1, (0, [], .null)), some (.iload 4, 2, (0, [], .null)), none, some (.isub, 1, (0, [], .null)), some (.iastore, 1, (0, [], .null)), some (.iinc 5 1, 3, (0, [], .int (1))), none, none, some (.goto (-26), 3, (40, [], .null)), none, none, some (.aload_n 2, 1, (0, [], .null)), some (.areturn, 1, (0, [], .null))]
/-- LonelyDots$Order.columnsWithCorner(I)[I -/
def lk_b36 : List (Option lk_E) := [some (.aload_n 0, 1, (0, [], .null)), some (.getfield 20, 3, (0, [(0, 5), (2, 5), (4, 5), (5, 5), (6, 5)], .null)), none, none, some (.arraylength, 1, (0, [], .null)), some (.istore_n 2, 1, (0, [], .null)), some (.iload_n 2, 1, (0, [], .null)), some (.iconst 1, 1, (0, [], .int (1))), some (.iadd, 1, (0, [], .null)), some (.newarray .int, 2, (0, [], .null)), none, some (.astore_n 3, 1, (0, [], .null)), some (.iload_n 1, 1, (0, [], .null)), some (.invokestatic 30, 3, (0, [(0, 37)], .ref 23)), none, none, some (.ifCond .eq 7, 3, (23, [], .null)), none, none, some (.iconst 0, 1, (0, [], .int (0))), some (.goto 4, 3, (24, [], .null)), none, none, some (.iconst 1, 1, (0, [], .int (1))), some (.istore 4, 2, (0, [], .null)), none, some (.iload_n 1, 1, (0, [], .null)), some (.invokestatic 34, 3, (0, [(0, 38)], .ref 24)), none, none, some (.ifCond .eq 7, 3, (37, [], .null)), none, none, some (.iconst 0, 1, (0, [], .int (0))), some (.goto 4, 3, (38, [], .null)), none, none, some (.iconst 1, 1, (0, [], .int (1))), some (.istore 5, 2, (0, [], .null)), none, some (.iconst 0, 1, (0, [], .int (0))), some (.istore 6, 2, (0, [], .null)), none, some (.iload 6, 2, (0, [], .null)), none, some (.iload_n 2, 1, (0, [], .null)), some (.if_icmp .ge 26, 3, (72, [], .null)), none, none, some (.aload_n 3, 1, (0, [], .null)), some (.iload 6, 2, (0, [], .null)), none, some (.iload 4, 2, (0, [], .null)), none, some (.iadd, 1, (0, [], .null)), some (.aload_n 0, 1, (0, [], .null)), some (.getfield 20, 3, (0, [(0, 5), (2, 5), (4, 5), (5, 5), (6, 5)], .null)), none, none, some (.iload 6, 2, (0, [], .null)), none, some (.iaload, 1, (0, [], .null)), some (.iload 5, 2, (0, [], .null)), none, some (.iadd, 1, (0, [], .null)), some (.iastore, 1, (0, [], .null)), some (.iinc 6 1, 3, (0, [], .int (1))), none, none, some (.goto (-26), 3, (43, [], .null)), none, none, some (.aload_n 3, 1, (0, [], .null)), some (.iload_n 1, 1, (0, [], .null)), some (.invokestatic 30, 3, (0, [(0, 37)], .ref 23)), none, none, some (.ifCond .eq 7, 3, (84, [], .null)), none, none, some (.iload_n 2, 1, (0, [], .null)), some (.goto 4, 3, (85, [], .null)), none, none, some (.iconst 0, 1, (0, [], .int (0))), some (.iload_n 1, 1, (0, [], .null)), some (.invokestatic 34, 3, (0, [(0, 38)], .ref 24)), none, none, some (.ifCond .eq 7, 3, (96, [], .null)), none, none, some (.iload_n 2, 1, (0, [], .null)), some (.goto 4, 3, (97, [], .null)), none, none, some (.iconst 0, 1, (0, [], .int (0))), some (.iastore, 1, (0, [], .null)), some (.aload_n 3, 1, (0, [], .null)), some (.areturn, 1, (0, [], .null))]
/-- LonelyDots$Order.isBelow(I)Z -/
def lk_b37 : List (Option lk_E) := [some (.iload_n 0, 1, (0, [], .null)), some (.iconst 2, 1, (0, [], .int (2))), some (.iand, 1, (0, [], .null)), some (.ifCond .eq 7, 3, (10, [], .null)), none, none, some (.iconst 1, 1, (0, [], .int (1))), some (.goto 4, 3, (11, [], .null)), none, none, some (.iconst 0, 1, (0, [], .int (0))), some (.ireturn, 1, (0, [], .null))]
/-- LonelyDots$Order.isRight(I)Z -/
def lk_b38 : List (Option lk_E) := [some (.iload_n 0, 1, (0, [], .null)), some (.iconst 1, 1, (0, [], .int (1))), some (.iand, 1, (0, [], .null)), some (.ifCond .eq 7, 3, (10, [], .null)), none, none, some (.iconst 1, 1, (0, [], .int (1))), some (.goto 4, 3, (11, [], .null)), none, none, some (.iconst 0, 1, (0, [], .int (0))), some (.ireturn, 1, (0, [], .null))]
/-- LonelyDots$Perfect.<init>([I)V -/
def lk_b39 : List (Option lk_E) := [some (.aload_n 0, 1, (0, [], .null)), some (.aload_n 1, 1, (0, [], .null)), some (.invokespecial 3, 3, (3, [(0, 42)], .ref 15)), none, none, some (.return_, 1, (0, [], .null))]
/-- LonelyDots$Perfect.toldKind()I -/
def lk_b40 : List (Option lk_E) := [some (.iconst 5, 1, (0, [], .int (5))), some (.ireturn, 1, (0, [], .null))]
/-- LonelyDots$Perfect.askSize(LLonelyDots$Trace;)I -/
def lk_b41 : List (Option lk_E) := [some (.aload_n 1, 1, (0, [], .null)), some (.bipush 14, 2, (0, [], .int (14))), none, some (.invokevirtual 9, 3, (1, [(9, 63)], .ref 1)), none, none, some (.aload_n 0, 1, (0, [], .null)), some (.aload_n 1, 1, (0, [], .null)), some (.invokespecial 15, 3, (5, [(0, 44)], .ref 25)), none, none, some (.aload_n 0, 1, (0, [], .null)), some (.aload_n 1, 1, (0, [], .null)), some (.invokevirtual 19, 3, (2, [(5, 18)], .ref 26)), none, none, some (.iadd, 1, (0, [], .null)), some (.ireturn, 1, (0, [], .null))]
/-- LonelyDots$Ruler.<init>([I)V -/
def lk_b42 : List (Option lk_E) := [some (.aload_n 0, 1, (0, [], .null)), some (.aload_n 1, 1, (0, [], .null)), some (.invokespecial 3, 3, (3, [(0, 11)], .ref 11)), none, none, some (.return_, 1, (0, [], .null))]
/-- LonelyDots$Ruler.toldKind()I -/
def lk_b43 : List (Option lk_E) := [some (.iconst 4, 1, (0, [], .int (4))), some (.ireturn, 1, (0, [], .null))]
/-- LonelyDots$Ruler.askSize(LLonelyDots$Trace;)I -/
def lk_b44 : List (Option lk_E) := [some (.aload_n 1, 1, (0, [], .null)), some (.bipush 13, 2, (0, [], .int (13))), none, some (.invokevirtual 9, 3, (1, [(9, 63)], .ref 1)), none, none, some (.iconst 2, 1, (0, [], .int (2))), some (.aload_n 0, 1, (0, [], .null)), some (.aload_n 1, 1, (0, [], .null)), some (.invokespecial 15, 3, (5, [(0, 17)], .ref 27)), none, none, some (.imul, 1, (0, [], .null)), some (.ireturn, 1, (0, [], .null))]
/-- LonelyDots$RulerSearch.<init>()V -/
def lk_b45 : List (Option lk_E) := [some (.aload_n 0, 1, (0, [], .null)), some (.invokespecial 3, 3, (100, [], .null)), none, none, some (.aload_n 0, 1, (0, [], .null)), some (.bipush 7, 2, (0, [], .int (7))), none, some (.newarray .int, 2, (0, [], .null)), none, some (.putfield 9, 3, (0, [(7, 0)], .null)), none, none, some (.aload_n 0, 1, (0, [], .null)), some (.bipush 6, 2, (0, [], .int (6))), none, some (.newarray .int, 2, (0, [], .null)), none, some (.putfield 15, 3, (1, [(7, 0)], .null)), none, none, some (.aload_n 0, 1, (0, [], .null)), some (.sipush 201, 3, (0, [], .int (201))), none, none, some (.newarray .boolean, 2, (0, [], .null)), none, some (.putfield 18, 3, (2, [(7, 0)], .null)), none, none, some (.aload_n 0, 1, (0, [], .null)), some (.getfield 9, 3, (0, [(7, 0)], .null)), none, none, some (.iconst (-1), 1, (0, [], .int (-1))), some (.invokestatic 22, 3, (0, [(0, 170)], .ref 18)), none, none, some (.return_, 1, (0, [], .null))]
/-- LonelyDots$RulerSearch.leastGreatestMark(I)I -/
def lk_b46 : List (Option lk_E) := [some (.aload_n 0, 1, (0, [], .null)), some (.getfield 9, 3, (0, [(7, 0)], .null)), none, none, some (.iload_n 1, 1, (0, [], .null)), some (.iaload, 1, (0, [], .null)), some (.iconst (-1), 1, (0, [], .int (-1))), some (.if_icmp .ne 26, 3, (33, [], .null)), none, none, some (.aload_n 0, 1, (0, [], .null)), some (.sipush 201, 3, (0, [], .int (201))), none, none, some (.putfield 28, 3, (3, [(7, 0)], .null)), none, none, some (.aload_n 0, 1, (0, [], .null)), some (.iconst 1, 1, (0, [], .int (1))), some (.iload_n 1, 1, (0, [], .null)), some (.invokestatic 32, 3, (0, [(0, 47)], .ref 28)), none, none, some (.aload_n 0, 1, (0, [], .null)), some (.getfield 9, 3, (0, [(7, 0)], .null)), none, none, some (.iload_n 1, 1, (0, [], .null)), some (.aload_n 0, 1, (0, [], .null)), some (.getfield 28, 3, (3, [(7, 0)], .null)), none, none, some (.iastore, 1, (0, [], .null)), some (.aload_n 0, 1, (0, [], .null)), some (.getfield 9, 3, (0, [(7, 0)], .null)), none, none, some (.iload_n 1, 1, (0, [], .null)), some (.iaload, 1, (0, [], .null)), some (.ireturn, 1, (0, [], .null))]
/-- LonelyDots$RulerSearch.search(LLonelyDots$RulerSearch;II)V -/
def lk_b47 : List (Option lk_E) := [some (.aload_n 0, 1, (0, [], .null)), some (.getfield 15, 3, (1, [(7, 0)], .null)), none, none, some (.iload_n 1, 1, (0, [], .null)), some (.iconst 1, 1, (0, [], .int (1))), some (.isub, 1, (0, [], .null)), some (.iaload, 1, (0, [], .null)), some (.istore_n 3, 1, (0, [], .null)), some (.iload_n 1, 1, (0, [], .null)), some (.iload_n 2, 1, (0, [], .null)), some (.if_icmp .lt 9, 3, (20, [], .null)), none, none, some (.aload_n 0, 1, (0, [], .null)), some (.iload_n 3, 1, (0, [], .null)), some (.putfield 28, 3, (3, [(7, 0)], .null)), none, none, some (.return_, 1, (0, [], .null)), some (.iload_n 3, 1, (0, [], .null)), some (.iconst 1, 1, (0, [], .int (1))), some (.iadd, 1, (0, [], .null)), some (.istore 4, 2, (0, [], .null)), none, some (.iload 4, 2, (0, [], .null)), none, some (.aload_n 0, 1, (0, [], .null)), some (.getfield 28, 3, (3, [(7, 0)], .null)), none, none, some (.if_icmp .ge 51, 3, (82, [], .null)), none, none, some (.aload_n 0, 1, (0, [], .null)), some (.iload 4, 2, (0, [], .null)), none, some (.iload_n 1, 1, (0, [], .null)), some (.invokevirtual 36, 3, (1, [(7, 48)], .ref 29)), none, none, some (.ifCond .eq 35, 3, (76, [], .null)), none, none, some (.aload_n 0, 1, (0, [], .null)), some (.getfield 15, 3, (1, [(7, 0)], .null)), none, none, some (.iload_n 1, 1, (0, [], .null)), some (.iload 4, 2, (0, [], .null)), none, some (.iastore, 1, (0, [], .null)), some (.aload_n 0, 1, (0, [], .null)), some (.iload 4, 2, (0, [], .null)), none, some (.iload_n 1, 1, (0, [], .null)), some (.iconst 1, 1, (0, [], .int (1))), some (.invokevirtual 40, 3, (1, [(7, 49)], .ref 30)), none, none, some (.aload_n 0, 1, (0, [], .null)), some (.iload_n 1, 1, (0, [], .null)), some (.iconst 1, 1, (0, [], .int (1))), some (.iadd, 1, (0, [], .null)), some (.iload_n 2, 1, (0, [], .null)), some (.invokestatic 32, 3, (0, [(0, 47)], .ref 28)), none, none, some (.aload_n 0, 1, (0, [], .null)), some (.iload 4, 2, (0, [], .null)), none, some (.iload_n 1, 1, (0, [], .null)), some (.iconst 0, 1, (0, [], .int (0))), some (.invokevirtual 40, 3, (1, [(7, 49)], .ref 30)), none, none, some (.iinc 4 1, 3, (0, [], .int (1))), none, none, some (.goto (-54), 3, (25, [], .null)), none, none, some (.return_, 1, (0, [], .null))]
/-- LonelyDots$RulerSearch.hasNewDistances(II)Z -/
def lk_b48 : List (Option lk_E) := [some (.iconst 0, 1, (0, [], .int (0))), some (.istore_n 3, 1, (0, [], .null)), some (.iload_n 3, 1, (0, [], .null)), some (.iload_n 2, 1, (0, [], .null)), some (.if_icmp .ge 27, 3, (31, [], .null)), none, none, some (.aload_n 0, 1, (0, [], .null)), some (.getfield 18, 3, (2, [(7, 0)], .null)), none, none, some (.iload_n 1, 1, (0, [], .null)), some (.aload_n 0, 1, (0, [], .null)), some (.getfield 15, 3, (1, [(7, 0)], .null)), none, none, some (.iload_n 3, 1, (0, [], .null)), some (.iaload, 1, (0, [], .null)), some (.isub, 1, (0, [], .null)), some (.baload, 1, (0, [], .null)), some (.ifCond .eq 5, 3, (25, [], .null)), none, none, some (.iconst 0, 1, (0, [], .int (0))), some (.ireturn, 1, (0, [], .null)), some (.iinc 3 1, 3, (0, [], .int (1))), none, none, some (.goto (-26), 3, (2, [], .null)), none, none, some (.iconst 1, 1, (0, [], .int (1))), some (.ireturn, 1, (0, [], .null))]
/-- LonelyDots$RulerSearch.mindDistances(IIZ)V -/
def lk_b49 : List (Option lk_E) := [some (.iconst 0, 1, (0, [], .int (0))), some (.istore 4, 2, (0, [], .null)), none, some (.iload 4, 2, (0, [], .null)), none, some (.iload_n 2, 1, (0, [], .null)), some (.if_icmp .ge 24, 3, (30, [], .null)), none, none, some (.aload_n 0, 1, (0, [], .null)), some (.getfield 18, 3, (2, [(7, 0)], .null)), none, none, some (.iload_n 1, 1, (0, [], .null)), some (.aload_n 0, 1, (0, [], .null)), some (.getfield 15, 3, (1, [(7, 0)], .null)), none, none, some (.iload 4, 2, (0, [], .null)), none, some (.iaload, 1, (0, [], .null)), some (.isub, 1, (0, [], .null)), some (.iload_n 3, 1, (0, [], .null)), some (.bastore, 1, (0, [], .null)), some (.iinc 4 1, 3, (0, [], .int (1))), none, none, some (.goto (-24), 3, (3, [], .null)), none, none, some (.return_, 1, (0, [], .null))]
/-- LonelyDots$Sheet.<init>()V -/
def lk_b50 : List (Option lk_E) := [some (.aload_n 0, 1, (0, [], .null)), some (.invokespecial 3, 3, (100, [], .null)), none, none, some (.aload_n 0, 1, (0, [], .null)), some (.bipush 60, 2, (0, [], .int (60))), none, some (.newarray .int, 2, (0, [], .null)), none, some (.putfield 9, 3, (0, [(8, 0)], .null)), none, none, some (.aload_n 0, 1, (0, [], .null)), some (.iconst 1, 1, (0, [], .int (1))), some (.putfield 15, 3, (1, [(8, 0)], .null)), none, none, some (.return_, 1, (0, [], .null))]
/-- LonelyDots$Sheet.lay(II)V -/
def lk_b51 : List (Option lk_E) := [some (.aload_n 0, 1, (0, [], .null)), some (.iconst 0, 1, (0, [], .int (0))), some (.putfield 15, 3, (1, [(8, 0)], .null)), none, none, some (.aload_n 0, 1, (0, [], .null)), some (.iload_n 1, 1, (0, [], .null)), some (.putfield 19, 3, (2, [(8, 0)], .null)), none, none, some (.aload_n 0, 1, (0, [], .null)), some (.iload_n 2, 1, (0, [], .null)), some (.putfield 23, 3, (3, [(8, 0)], .null)), none, none, some (.aload_n 0, 1, (0, [], .null)), some (.getfield 9, 3, (0, [(8, 0)], .null)), none, none, some (.iconst 0, 1, (0, [], .int (0))), some (.invokestatic 26, 3, (0, [(0, 170)], .ref 18)), none, none, some (.return_, 1, (0, [], .null))]
/-- LonelyDots$Sheet.holds(II)Z -/
def lk_b52 : List (Option lk_E) := [some (.iload_n 1, 1, (0, [], .null)), some (.ifCond .lt 29, 3, (30, [], .null)), none, none, some (.iload_n 2, 1, (0, [], .null)), some (.ifCond .lt 25, 3, (30, [], .null)), none, none, some (.iload_n 2, 1, (0, [], .null)), some (.aload_n 0, 1, (0, [], .null)), some (.getfield 23, 3, (3, [(8, 0)], .null)), none, none, some (.if_icmp .gt 17, 3, (30, [], .null)), none, none, some (.iload_n 1, 1, (0, [], .null)), some (.aload_n 0, 1, (0, [], .null)), some (.getfield 23, 3, (3, [(8, 0)], .null)), none, none, some (.iload_n 2, 1, (0, [], .null)), some (.isub, 1, (0, [], .null)), some (.if_icmp .gt 7, 3, (30, [], .null)), none, none, some (.iconst 1, 1, (0, [], .int (1))), some (.goto 4, 3, (31, [], .null)), none, none, some (.iconst 0, 1, (0, [], .int (0))), some (.ireturn, 1, (0, [], .null))]
/-- LonelyDots$Sheet.narrowed(I)I -/
def lk_b53 : List (Option lk_E) := [some (.aload_n 0, 1, (0, [], .null)), some (.getfield 19, 3, (2, [(8, 0)], .null)), none, none, some (.lookupswitch 34 #[(0, 28), (1, 31)], 28, (38, [(0, 32), (1, 35)], .null)), none, none, none, none, none, none, none, none, none, none, none, none, none, none, none, none, none, none, none, none, none, none, none, none, none, none, none, some (.iload_n 1, 1, (0, [], .null)), some (.i2b, 1, (0, [], .null)), some (.ireturn, 1, (0, [], .null)), some (.iload_n 1, 1, (0, [], .null)), some (.i2s, 1, (0, [], .null)), some (.ireturn, 1, (0, [], .null)), some (.iload_n 1, 1, (0, [], .null)), some (.ireturn, 1, (0, [], .null))]
/-- LonelyDots$Sheet.read(II)[I -/
def lk_b54 : List (Option lk_E) := [some (.aload_n 0, 1, (0, [], .null)), some (.getfield 9, 3, (0, [(8, 0)], .null)), none, none, some (.iload_n 1, 1, (0, [], .null)), some (.iload_n 1, 1, (0, [], .null)), some (.iload_n 2, 1, (0, [], .null)), some (.iadd, 1, (0, [], .null)), some (.invokestatic 32, 3, (0, [(0, 172)], .ref 31)), none, none, some (.areturn, 1, (0, [], .null))]
/-- LonelyDots$Thing.<init>([I)V -/
def lk_b55 : List (Option lk_E) := [some (.aload_n 0, 1, (0, [], .null)), some (.invokespecial 3, 3, (100, [], .null)), none, none, some (.aload_n 0, 1, (0, [], .null)), some (.aload_n 1, 1, (0, [], .null)), some (.putfield 9, 3, (0, [(0, 0), (2, 0), (4, 0), (5, 0), (6, 0)], .null)), none, none, some (.return_, 1, (0, [], .null))]
/-- LonelyDots$Thing.askSize(LLonelyDots$Trace;)I -/
def lk_b56 : List (Option lk_E) := [some (.aload_n 1, 1, (0, [], .null)), some (.bipush 10, 2, (0, [], .int (10))), none, some (.invokevirtual 15, 3, (1, [(9, 63)], .ref 1)), none, none, some (.iconst 1, 1, (0, [], .int (1))), some (.ireturn, 1, (0, [], .null))]
/-- LonelyDots$Thing.askMark(LLonelyDots$Trace;)I -/
def lk_b57 : List (Option lk_E) := [some (.aload_n 1, 1, (0, [], .null)), some (.bipush 20, 2, (0, [], .int (20))), none, some (.invokevirtual 15, 3, (1, [(9, 63)], .ref 1)), none, none, some (.aload_n 0, 1, (0, [], .null)), some (.aload_n 1, 1, (0, [], .null)), some (.invokevirtual 21, 3, (2, [(0, 33), (2, 17), (4, 33), (5, 41), (6, 44)], .ref 32)), none, none, some (.iconst 4, 1, (0, [], .int (4))), some (.iadd, 1, (0, [], .null)), some (.ireturn, 1, (0, [], .null))]
/-- LonelyDots$Thing.partOfAlike(I)I -/
def lk_b58 : List (Option lk_E) := [some (.iconst 0, 1, (0, [], .int (0))), some (.istore_n 2, 1, (0, [], .null)), some (.iload_n 2, 1, (0, [], .null)), some (.aload_n 0, 1, (0, [], .null)), some (.getfield 9, 3, (0, [(0, 0), (2, 0), (4, 0), (5, 0), (6, 0)], .null)), none, none, some (.arraylength, 1, (0, [], .null)), some (.if_icmp .ge 51, 3, (59, [], .null)), none, none, some (.iload_n 2, 1, (0, [], .null)), some (.iconst 1, 1, (0, [], .int (1))), some (.iadd, 1, (0, [], .null)), some (.istore_n 3, 1, (0, [], .null)), some (.iload_n 3, 1, (0, [], .null)), some (.aload_n 0, 1, (0, [], .null)), some (.getfield 9, 3, (0, [(0, 0), (2, 0), (4, 0), (5, 0), (6, 0)], .null)), none, none, some (.arraylength, 1, (0, [], .null)), some (.if_icmp .ge 32, 3, (53, [], .null)), none, none, some (.aload_n 0, 1, (0, [], .null)), some (.iload_n 2, 1, (0, [], .null)), some (.iload_n 3, 1, (0, [], .null)), some (.invokevirtual 25, 3, (2, [(0, 59), (2, 59), (4, 59), (5, 59), (6, 59)], .ref 33)), none, none, some (.istore 4, 2, (0, [], .null)), none, some (.iload 4, 2, (0, [], .null)), none, some (.ifCond .lt 13, 3, (47, [], .null)), none, none, some (.aload_n 0, 1, (0, [], .null)), some (.iload_n 1, 1, (0, [], .null)), some (.iload_n 2, 1, (0, [], .null)), some (.iload_n 3, 1, (0, [], .null)), some (.iload 4, 2, (0, [], .null)), none, some (.invokevirtual 29, 3, (2, [(0, 60), (2, 60), (4, 60), (5, 60), (6, 60)], .ref 34)), none, none, some (.ireturn, 1, (0, [], .null)), some (.iinc 3 1, 3, (0, [], .int (1))), none, none, some (.goto (-35), 3, (15, [], .null)), none, none, some (.iinc 2 1, 3, (0, [], .int (1))), none, none, some (.goto (-54), 3, (2, [], .null)), none, none, some (.ldc 33, 2, (0, [], .int (-1000000))), none, some (.ireturn, 1, (0, [], .null))]
/-- LonelyDots$Thing.laterFirst(II)I -/
def lk_b59 : List (Option lk_E) := [some (.iload_n 1, 1, (0, [], .null)), some (.iconst 1, 1, (0, [], .int (1))), some (.iadd, 1, (0, [], .null)), some (.istore_n 3, 1, (0, [], .null)), some (.iload_n 3, 1, (0, [], .null)), some (.aload_n 0, 1, (0, [], .null)), some (.getfield 9, 3, (0, [(0, 0), (2, 0), (4, 0), (5, 0), (6, 0)], .null)), none, none, some (.arraylength, 1, (0, [], .null)), some (.if_icmp .ge 21, 3, (31, [], .null)), none, none, some (.aload_n 0, 1, (0, [], .null)), some (.iload_n 1, 1, (0, [], .null)), some (.iload_n 2, 1, (0, [], .null)), some (.iload_n 3, 1, (0, [], .null)), some (.invokevirtual 34, 3, (2, [(0, 32), (2, 16), (4, 32), (5, 16), (6, 16)], .ref 35)), none, none, some (.ifCond .lt 5, 3, (25, [], .null)), none, none, some (.iload_n 3, 1, (0, [], .null)), some (.ireturn, 1, (0, [], .null)), some (.iinc 3 1, 3, (0, [], .int (1))), none, none, some (.goto (-24), 3, (4, [], .null)), none, none, some (.iconst (-1), 1, (0, [], .int (-1))), some (.ireturn, 1, (0, [], .null))]
/-- LonelyDots$Thing.partOfPairs(IIII)I -/
def lk_b60 : List (Option lk_E) := [some (.iload_n 1, 1, (0, [], .null)), some (.tableswitch 34 0 2 #[27, 29, 31], 27, (35, [(0, 28), (1, 30), (2, 32)], .null)), none, none, none, none, none, none, none, none, none, none, none, none, none, none, none, none, none, none, none, none, none, none, none, none, none, none, some (.iload_n 2, 1, (0, [], .null)), some (.ireturn, 1, (0, [], .null)), some (.iload_n 3, 1, (0, [], .null)), some (.ireturn, 1, (0, [], .null)), some (.iload 4, 2, (0, [], .null)), none, some (.ireturn, 1, (0, [], .null)), some (.aload_n 0, 1, (0, [], .null)), some (.iload_n 2, 1, (0, [], .null)), some (.iload_n 3, 1, (0, [], .null)), some (.iload 4, 2, (0, [], .null)), none, some (.invokevirtual 34, 3, (2, [(0, 32), (2, 16), (4, 32), (5, 16), (6, 16)], .ref 35)), none, none, some (.ireturn, 1, (0, [], .null))]
/-- LonelyDots$Trace.<init>()V -/
def lk_b61 : List (Option lk_E) := [some (.aload_n 0, 1, (0, [], .null)), some (.invokespecial 3, 3, (100, [], .null)), none, none, some (.aload_n 0, 1, (0, [], .null)), some (.bipush 16, 2, (0, [], .int (16))), none, some (.newarray .int, 2, (0, [], .null)), none, some (.putfield 9, 3, (0, [(9, 0)], .null)), none, none, some (.return_, 1, (0, [], .null))]
/-- LonelyDots$Trace.empty()V -/
def lk_b62 : List (Option lk_E) := [some (.aload_n 0, 1, (0, [], .null)), some (.iconst 0, 1, (0, [], .int (0))), some (.putfield 15, 3, (1, [(9, 0)], .null)), none, none, some (.return_, 1, (0, [], .null))]
/-- LonelyDots$Trace.begin(I)V -/
def lk_b63 : List (Option lk_E) := [some (.aload_n 0, 1, (0, [], .null)), some (.getfield 15, 3, (1, [(9, 0)], .null)), none, none, some (.aload_n 0, 1, (0, [], .null)), some (.getfield 9, 3, (0, [(9, 0)], .null)), none, none, some (.arraylength, 1, (0, [], .null)), some (.if_icmp .ge 23, 3, (32, [], .null)), none, none, some (.aload_n 0, 1, (0, [], .null)), some (.getfield 9, 3, (0, [(9, 0)], .null)), none, none, some (.aload_n 0, 1, (0, [], .null)), some (.getfield 15, 3, (1, [(9, 0)], .null)), none, none, some (.iload_n 1, 1, (0, [], .null)), some (.iastore, 1, (0, [], .null)), some (.aload_n 0, 1, (0, [], .null)), some (.dup, 1, (0, [], .null)), some (.getfield 15, 3, (1, [(9, 0)], .null)), none, none, some (.iconst 1, 1, (0, [], .int (1))), some (.iadd, 1, (0, [], .null)), some (.putfield 15, 3, (1, [(9, 0)], .null)), none, none, some (.return_, 1, (0, [], .null))]
/-- LonelyDots$Trace.number(I)I -/
def lk_b64 : List (Option lk_E) := [some (.iload_n 1, 1, (0, [], .null)), some (.ifCond .lt 20, 3, (21, [], .null)), none, none, some (.iload_n 1, 1, (0, [], .null)), some (.aload_n 0, 1, (0, [], .null)), some (.getfield 15, 3, (1, [(9, 0)], .null)), none, none, some (.if_icmp .ge 12, 3, (21, [], .null)), none, none, some (.aload_n 0, 1, (0, [], .null)), some (.getfield 9, 3, (0, [(9, 0)], .null)), none, none, some (.iload_n 1, 1, (0, [], .null)), some (.iaload, 1, (0, [], .null)), some (.goto 5, 3, (23, [], .null)), none, none, some (.ldc 19, 2, (0, [], .int (-1000000))), none, some (.ireturn, 1, (0, [], .null))]
/-- LonelyDots.<init>()V -/
def lk_b65 : List (Option lk_E) := [some (.aload_n 0, 1, (0, [], .null)), some (.invokespecial 1, 3, (100, [], .null)), none, none, some (.aload_n 0, 1, (0, [], .null)), some (.bipush 8, 2, (0, [], .int (8))), none, some (.anewarray 9, 3, (2, [], .null)), none, none, some (.putfield 11, 3, (0, [(10, 0)], .null)), none, none, some (.aload_n 0, 1, (0, [], .null)), some (.bipush 10, 2, (0, [], .int (10))), none, some (.anewarray 15, 3, (3, [], .null)), none, none, some (.putfield 17, 3, (1, [(10, 0)], .null)), none, none, some (.aload_n 0, 1, (0, [], .null)), some (.new 21, 3, (9, [], .null)), none, none, some (.dup, 1, (0, [], .null)), some (.invokespecial 23, 3, (4, [(0, 61)], .ref 36)), none, none, some (.putfield 24, 3, (2, [(10, 0)], .null)), none, none, some (.aload_n 0, 1, (0, [], .null)), some (.new 28, 3, (3, [], .null)), none, none, some (.dup, 1, (0, [], .null)), some (.invokespecial 30, 3, (4, [(0, 19)], .ref 37)), none, none, some (.putfield 31, 3, (3, [(10, 0)], .null)), none, none, some (.aload_n 0, 1, (0, [], .null)), some (.bipush 8, 2, (0, [], .int (8))), none, some (.anewarray 35, 3, (4, [], .null)), none, none, some (.putfield 37, 3, (4, [(10, 0)], .null)), none, none, some (.aload_n 0, 1, (0, [], .null)), some (.new 41, 3, (7, [], .null)), none, none, some (.dup, 1, (0, [], .null)), some (.invokespecial 43, 3, (3, [(0, 45)], .ref 38)), none, none, some (.putfield 44, 3, (5, [(10, 0)], .null)), none, none, some (.aload_n 0, 1, (0, [], .null)), some (.iconst 0, 1, (0, [], .int (0))), some (.putfield 48, 3, (6, [(10, 0)], .null)), none, none, some (.iconst 0, 1, (0, [], .int (0))), some (.istore_n 1, 1, (0, [], .null)), some (.iload_n 1, 1, (0, [], .null)), some (.bipush 8, 2, (0, [], .int (8))), none, some (.if_icmp .ge 22, 3, (96, [], .null)), none, none, some (.aload_n 0, 1, (0, [], .null)), some (.getfield 11, 3, (0, [(10, 0)], .null)), none, none, some (.iload_n 1, 1, (0, [], .null)), some (.new 9, 3, (8, [], .null)), none, none, some (.dup, 1, (0, [], .null)), some (.invokespecial 52, 3, (4, [(0, 50)], .ref 39)), none, none, some (.aastore, 1, (0, [], .null)), some (.iinc 1 1, 3, (0, [], .int (1))), none, none, some (.goto (-22), 3, (71, [], .null)), none, none, some (.return_, 1, (0, [], .null))]
/-- LonelyDots.sheet(III)I -/
def lk_b66 : List (Option lk_E) := [some (.iload_n 1, 1, (0, [], .null)), some (.invokestatic 53, 3, (0, [(0, 94)], .ref 40)), none, none, some (.ifCond .eq 18, 3, (22, [], .null)), none, none, some (.iload_n 2, 1, (0, [], .null)), some (.ifCond .lt 14, 3, (22, [], .null)), none, none, some (.iload_n 2, 1, (0, [], .null)), some (.iconst 3, 1, (0, [], .int (3))), some (.if_icmp .ge 9, 3, (22, [], .null)), none, none, some (.iload_n 3, 1, (0, [], .null)), some (.bipush 60, 2, (0, [], .int (60))), none, some (.if_icmp .le 6, 3, (25, [], .null)), none, none, some (.ldc 57, 2, (0, [], .int (-1000001))), none, some (.ireturn, 1, (0, [], .null)), some (.iload_n 3, 1, (0, [], .null)), some (.ifCond .ge 9, 3, (35, [], .null)), none, none, some (.aload_n 0, 1, (0, [], .null)), some (.iconst 4, 1, (0, [], .int (4))), some (.invokevirtual 58, 3, (1, [(10, 96)], .ref 41)), none, none, some (.ireturn, 1, (0, [], .null)), some (.aload_n 0, 1, (0, [], .null)), some (.getfield 11, 3, (0, [(10, 0)], .null)), none, none, some (.iload_n 1, 1, (0, [], .null)), some (.aaload, 1, (0, [], .null)), some (.iload_n 2, 1, (0, [], .null)), some (.iload_n 3, 1, (0, [], .null)), some (.invokevirtual 62, 3, (1, [(8, 51)], .ref 42)), none, none, some (.aload_n 0, 1, (0, [], .null)), some (.iload_n 3, 1, (0, [], .null)), some (.invokevirtual 66, 3, (1, [(10, 97)], .ref 43)), none, none, some (.ireturn, 1, (0, [], .null))]
/-- LonelyDots.set(III)I -/
def lk_b67 : List (Option lk_E) := [some (.iload_n 1, 1, (0, [], .null)), some (.invokestatic 53, 3, (0, [(0, 94)], .ref 40)), none, none, some (.ifCond .ne 6, 3, (10, [], .null)), none, none, some (.ldc 57, 2, (0, [], .int (-1000001))), none, some (.ireturn, 1, (0, [], .null)), some (.aload_n 0, 1, (0, [], .null)), some (.getfield 11, 3, (0, [(10, 0)], .null)), none, none, some (.iload_n 1, 1, (0, [], .null)), some (.aaload, 1, (0, [], .null)), some (.astore 4, 2, (0, [], .null)), none, some (.aload 4, 2, (0, [], .null)), none, some (.getfield 69, 3, (1, [(8, 0)], .null)), none, none, some (.ifCond .eq 9, 3, (32, [], .null)), none, none, some (.aload_n 0, 1, (0, [], .null)), some (.iconst 1, 1, (0, [], .int (1))), some (.invokevirtual 58, 3, (1, [(10, 96)], .ref 41)), none, none, some (.ireturn, 1, (0, [], .null)), some (.aload 4, 2, (0, [], .null)), none, some (.iload_n 2, 1, (0, [], .null)), some (.iconst 1, 1, (0, [], .int (1))), some (.invokevirtual 73, 3, (1, [(8, 52)], .ref 44)), none, none, some (.ifCond .ne 9, 3, (48, [], .null)), none, none, some (.aload_n 0, 1, (0, [], .null)), some (.iconst 2, 1, (0, [], .int (2))), some (.invokevirtual 58, 3, (1, [(10, 96)], .ref 41)), none, none, some (.ireturn, 1, (0, [], .null)), some (.aload 4, 2, (0, [], .null)), none, some (.getfield 77, 3, (0, [(8, 0)], .null)), none, none, some (.iload_n 2, 1, (0, [], .null)), some (.aload 4, 2, (0, [], .null)), none, some (.iload_n 3, 1, (0, [], .null)), some (.invokevirtual 81, 3, (1, [(8, 53)], .ref 45)), none, none, some (.iastore, 1, (0, [], .null)), some (.aload_n 0, 1, (0, [], .null)), some (.aload 4, 2, (0, [], .null)), none, some (.getfield 77, 3, (0, [(8, 0)], .null)), none, none, some (.iload_n 2, 1, (0, [], .null)), some (.iaload, 1, (0, [], .null)), some (.invokevirtual 66, 3, (1, [(10, 97)], .ref 43)), none, none, some (.ireturn, 1, (0, [], .null))]
/-- LonelyDots.copy(IIIII)I -/
def lk_b68 : List (Option lk_E) := [some (.iload_n 1, 1, (0, [], .null)), some (.invokestatic 53, 3, (0, [(0, 94)], .ref 40)), none, none, some (.ifCond .eq 10, 3, (14, [], .null)), none, none, some (.iload_n 3, 1, (0, [], .null)), some (.invokestatic 53, 3, (0, [(0, 94)], .ref 40)), none, none, some (.ifCond .ne 6, 3, (17, [], .null)), none, none, some (.ldc 57, 2, (0, [], .int (-1000001))), none, some (.ireturn, 1, (0, [], .null)), some (.aload_n 0, 1, (0, [], .null)), some (.getfield 11, 3, (0, [(10, 0)], .null)), none, none, some (.iload_n 1, 1, (0, [], .null)), some (.aaload, 1, (0, [], .null)), some (.astore 6, 2, (0, [], .null)), none, some (.aload_n 0, 1, (0, [], .null)), some (.getfield 11, 3, (0, [(10, 0)], .null)), none, none, some (.iload_n 3, 1, (0, [], .null)), some (.aaload, 1, (0, [], .null)), some (.astore 7, 2, (0, [], .null)), none, some (.aload 6, 2, (0, [], .null)), none, some (.getfield 69, 3, (1, [(8, 0)], .null)), none, none, some (.ifCond .ne 11, 3, (49, [], .null)), none, none, some (.aload 7, 2, (0, [], .null)), none, some (.getfield 69, 3, (1, [(8, 0)], .null)), none, none, some (.ifCond .eq 9, 3, (55, [], .null)), none, none, some (.aload_n 0, 1, (0, [], .null)), some (.iconst 1, 1, (0, [], .int (1))), some (.invokevirtual 58, 3, (1, [(10, 96)], .ref 41)), none, none, some (.ireturn, 1, (0, [], .null)), some (.aload 6, 2, (0, [], .null)), none, some (.getfield 84, 3, (2, [(8, 0)], .null)), none, none, some (.aload 7, 2, (0, [], .null)), none, some (.getfield 84, 3, (2, [(8, 0)], .null)), none, none, some (.if_icmp .eq 9, 3, (74, [], .null)), none, none, some (.aload_n 0, 1, (0, [], .null)), some (.iconst 5, 1, (0, [], .int (5))), some (.invokevirtual 58, 3, (1, [(10, 96)], .ref 41)), none, none, some (.ireturn, 1, (0, [], .null)), some (.aload 6, 2, (0, [], .null)), none, some (.iload_n 2, 1, (0, [], .null)), some (.iload 5, 2, (0, [], .null)), none, some (.invokevirtual 73, 3, (1, [(8, 52)], .ref 44)), none, none, some (.ifCond .eq 15, 3, (97, [], .null)), none, none, some (.aload 7, 2, (0, [], .null)), none, some (.iload 4, 2, (0, [], .null)), none, some (.iload 5, 2, (0, [], .null)), none, some (.invokevirtual 73, 3, (1, [(8, 52)], .ref 44)), none, none, some (.ifCond .ne 9, 3, (103, [], .null)), none, none, some (.aload_n 0, 1, (0, [], .null)), some (.iconst 2, 1, (0, [], .int (2))), some (.invokevirtual 58, 3, (1, [(10, 96)], .ref 41)), none, none, some (.ireturn, 1, (0, [], .null)), some (.aload 6, 2, (0, [], .null)), none, some (.getfield 77, 3, (0, [(8, 0)], .null)), none, none, some (.iload_n 2, 1, (0, [], .null)), some (.aload 7, 2, (0, [], .null)), none, some (.getfield 77, 3, (0, [(8, 0)], .null)), none, none, some (.iload 4, 2, (0, [], .null)), none, some (.iload 5, 2, (0, [], .null)), none, some (.invokestatic 87, 3, (101, [], .null)), none, none, some (.aload_n 0, 1, (0, [], .null)), some (.iload 5, 2, (0, [], .null)), none, some (.invokevirtual 66, 3, (1, [(10, 97)], .ref 43)), none, none, some (.ireturn, 1, (0, [], .null))]
/-- LonelyDots.drop(I)I -/
def lk_b69 : List (Option lk_E) := [some (.iload_n 1, 1, (0, [], .null)), some (.invokestatic 53, 3, (0, [(0, 94)], .ref 40)), none, none, some (.ifCond .ne 6, 3, (10, [], .null)), none, none, some (.ldc 57, 2, (0, [], .int (-1000001))), none, some (.ireturn, 1, (0, [], .null)), some (.aload_n 0, 1, (0, [], .null)), some (.getfield 11, 3, (0, [(10, 0)], .null)), none, none, some (.iload_n 1, 1, (0, [], .null)), some (.aaload, 1, (0, [], .null)), some (.astore_n 2, 1, (0, [], .null)), some (.aload_n 2, 1, (0, [], .null)), some (.getfield 69, 3, (1, [(8, 0)], .null)), none, none, some (.ifCond .eq 9, 3, (30, [], .null)), none, none, some (.aload_n 0, 1, (0, [], .null)), some (.iconst 1, 1, (0, [], .int (1))), some (.invokevirtual 58, 3, (1, [(10, 96)], .ref 41)), none, none, some (.ireturn, 1, (0, [], .null)), some (.aload_n 2, 1, (0, [], .null)), some (.iconst 1, 1, (0, [], .int (1))), some (.putfield 69, 3, (1, [(8, 0)], .null)), none, none, some (.aload_n 0, 1, (0, [], .null)), some (.aload_n 2, 1, (0, [], .null)), some (.getfield 93, 3, (3, [(8, 0)], .null)), none, none, some (.invokevirtual 66, 3, (1, [(10, 97)], .ref 43)), none, none, some (.ireturn, 1, (0, [], .null))]
/-- LonelyDots.order(IIII)I -/
def lk_b70 : List (Option lk_E) := [some (.iload_n 1, 1, (0, [], .null)), some (.invokestatic 96, 3, (0, [(0, 95)], .ref 46)), none, none, some (.ifCond .eq 23, 3, (27, [], .null)), none, none, some (.iload_n 2, 1, (0, [], .null)), some (.invokestatic 53, 3, (0, [(0, 94)], .ref 40)), none, none, some (.ifCond .eq 16, 3, (27, [], .null)), none, none, some (.iload 4, 2, (0, [], .null)), none, some (.iconst 1, 1, (0, [], .int (1))), some (.if_icmp .lt 10, 3, (27, [], .null)), none, none, some (.iload 4, 2, (0, [], .null)), none, some (.bipush 16, 2, (0, [], .int (16))), none, some (.if_icmp .le 6, 3, (30, [], .null)), none, none, some (.ldc 57, 2, (0, [], .int (-1000001))), none, some (.ireturn, 1, (0, [], .null)), some (.aload_n 0, 1, (0, [], .null)), some (.iload_n 2, 1, (0, [], .null)), some (.iload_n 3, 1, (0, [], .null)), some (.iload 4, 2, (0, [], .null)), none, some (.invokevirtual 99, 3, (1, [(10, 99)], .ref 47)), none, none, some (.istore 5, 2, (0, [], .null)), none, some (.iload 5, 2, (0, [], .null)), none, some (.ifCond .eq 10, 3, (52, [], .null)), none, none, some (.aload_n 0, 1, (0, [], .null)), some (.iload 5, 2, (0, [], .null)), none, some (.invokevirtual 58, 3, (1, [(10, 96)], .ref 41)), none, none, some (.ireturn, 1, (0, [], .null)), some (.aload_n 0, 1, (0, [], .null)), some (.getfield 11, 3, (0, [(10, 0)], .null)), none, none, some (.iload_n 2, 1, (0, [], .null)), some (.aaload, 1, (0, [], .null)), some (.iload_n 3, 1, (0, [], .null)), some (.iload 4, 2, (0, [], .null)), none, some (.invokevirtual 103, 3, (1, [(8, 54)], .ref 48)), none, none, some (.astore 6, 2, (0, [], .null)), none, some (.aload 6, 2, (0, [], .null)), none, some (.invokestatic 107, 3, (0, [(0, 29)], .ref 49)), none, none, some (.ifCond .eq 16, 3, (87, [], .null)), none, none, some (.aload_n 0, 1, (0, [], .null)), some (.iload_n 1, 1, (0, [], .null)), some (.aload 6, 2, (0, [], .null)), none, some (.invokestatic 113, 3, (0, [(0, 28)], .ref 50)), none, none, some (.invokevirtual 117, 3, (1, [(10, 98)], .ref 51)), none, none, some (.goto 5, 3, (89, [], .null)), none, none, some (.ldc 57, 2, (0, [], .int (-1000001))), none, some (.ireturn, 1, (0, [], .null))]
/-- LonelyDots.marks(IIII)I -/
def lk_b71 : List (Option lk_E) := [some (.iload_n 1, 1, (0, [], .null)), some (.invokestatic 96, 3, (0, [(0, 95)], .ref 46)), none, none, some (.ifCond .eq 23, 3, (27, [], .null)), none, none, some (.iload_n 2, 1, (0, [], .null)), some (.invokestatic 53, 3, (0, [(0, 94)], .ref 40)), none, none, some (.ifCond .eq 16, 3, (27, [], .null)), none, none, some (.iload 4, 2, (0, [], .null)), none, some (.iconst 1, 1, (0, [], .int (1))), some (.if_icmp .lt 10, 3, (27, [], .null)), none, none, some (.iload 4, 2, (0, [], .null)), none, some (.bipush 12, 2, (0, [], .int (12))), none, some (.if_icmp .le 6, 3, (30, [], .null)), none, none, some (.ldc 57, 2, (0, [], .int (-1000001))), none, some (.ireturn, 1, (0, [], .null)), some (.aload_n 0, 1, (0, [], .null)), some (.iload_n 2, 1, (0, [], .null)), some (.iload_n 3, 1, (0, [], .null)), some (.iload 4, 2, (0, [], .null)), none, some (.invokevirtual 99, 3, (1, [(10, 99)], .ref 47)), none, none, some (.istore 5, 2, (0, [], .null)), none, some (.iload 5, 2, (0, [], .null)), none, some (.ifCond .eq 10, 3, (52, [], .null)), none, none, some (.aload_n 0, 1, (0, [], .null)), some (.iload 5, 2, (0, [], .null)), none, some (.invokevirtual 58, 3, (1, [(10, 96)], .ref 41)), none, none, some (.ireturn, 1, (0, [], .null)), some (.aload_n 0, 1, (0, [], .null)), some (.getfield 11, 3, (0, [(10, 0)], .null)), none, none, some (.iload_n 2, 1, (0, [], .null)), some (.aaload, 1, (0, [], .null)), some (.iload_n 3, 1, (0, [], .null)), some (.iload 4, 2, (0, [], .null)), none, some (.invokevirtual 103, 3, (1, [(8, 54)], .ref 48)), none, none, some (.astore 6, 2, (0, [], .null)), none, some (.aload 6, 2, (0, [], .null)), none, some (.invokestatic 121, 3, (0, [(0, 13)], .ref 52)), none, none, some (.ifCond .eq 16, 3, (87, [], .null)), none, none, some (.aload_n 0, 1, (0, [], .null)), some (.iload_n 1, 1, (0, [], .null)), some (.aload 6, 2, (0, [], .null)), none, some (.invokestatic 126, 3, (0, [(0, 12)], .ref 53)), none, none, some (.invokevirtual 117, 3, (1, [(10, 98)], .ref 51)), none, none, some (.goto 5, 3, (89, [], .null)), none, none, some (.ldc 57, 2, (0, [], .int (-1000001))), none, some (.ireturn, 1, (0, [], .null))]
/-- LonelyDots.powers(IIII)I -/
def lk_b72 : List (Option lk_E) := [some (.iload_n 1, 1, (0, [], .null)), some (.invokestatic 96, 3, (0, [(0, 95)], .ref 46)), none, none, some (.ifCond .eq 35, 3, (39, [], .null)), none, none, some (.iload_n 2, 1, (0, [], .null)), some (.iconst 3, 1, (0, [], .int (3))), some (.if_icmp .lt 30, 3, (39, [], .null)), none, none, some (.iload_n 2, 1, (0, [], .null)), some (.invokestatic 129, 3, (0, [(0, 106)], .ref 54)), none, none, some (.ifCond .eq 23, 3, (39, [], .null)), none, none, some (.iload_n 3, 1, (0, [], .null)), some (.iload_n 2, 1, (0, [], .null)), some (.invokestatic 132, 3, (0, [(0, 107)], .ref 55)), none, none, some (.ifCond .eq 15, 3, (39, [], .null)), none, none, some (.iload 4, 2, (0, [], .null)), none, some (.ifCond .lt 10, 3, (39, [], .null)), none, none, some (.iload 4, 2, (0, [], .null)), none, some (.bipush 15, 2, (0, [], .int (15))), none, some (.if_icmp .le 6, 3, (42, [], .null)), none, none, some (.ldc 57, 2, (0, [], .int (-1000001))), none, some (.ireturn, 1, (0, [], .null)), some (.aload_n 0, 1, (0, [], .null)), some (.iload_n 1, 1, (0, [], .null)), some (.iload_n 2, 1, (0, [], .null)), some (.iload_n 3, 1, (0, [], .null)), some (.iload 4, 2, (0, [], .null)), none, some (.invokestatic 135, 3, (0, [(0, 109)], .ref 56)), none, none, some (.invokestatic 113, 3, (0, [(0, 28)], .ref 50)), none, none, some (.invokevirtual 117, 3, (1, [(10, 98)], .ref 51)), none, none, some (.ireturn, 1, (0, [], .null))]
/-- LonelyDots.sums(IIII)I -/
def lk_b73 : List (Option lk_E) := [some (.iload_n 1, 1, (0, [], .null)), some (.invokestatic 96, 3, (0, [(0, 95)], .ref 46)), none, none, some (.ifCond .eq 32, 3, (36, [], .null)), none, none, some (.iload_n 2, 1, (0, [], .null)), some (.iconst 5, 1, (0, [], .int (5))), some (.if_icmp .lt 27, 3, (36, [], .null)), none, none, some (.iload_n 2, 1, (0, [], .null)), some (.invokestatic 129, 3, (0, [(0, 106)], .ref 54)), none, none, some (.ifCond .eq 20, 3, (36, [], .null)), none, none, some (.iload_n 3, 1, (0, [], .null)), some (.iload_n 2, 1, (0, [], .null)), some (.invokestatic 132, 3, (0, [(0, 107)], .ref 55)), none, none, some (.ifCond .eq 12, 3, (36, [], .null)), none, none, some (.iload 4, 2, (0, [], .null)), none, some (.iload_n 2, 1, (0, [], .null)), some (.invokestatic 132, 3, (0, [(0, 107)], .ref 55)), none, none, some (.ifCond .ne 6, 3, (39, [], .null)), none, none, some (.ldc 57, 2, (0, [], .int (-1000001))), none, some (.ireturn, 1, (0, [], .null)), some (.aload_n 0, 1, (0, [], .null)), some (.iload_n 1, 1, (0, [], .null)), some (.iload_n 2, 1, (0, [], .null)), some (.iload_n 3, 1, (0, [], .null)), some (.iload 4, 2, (0, [], .null)), none, some (.invokestatic 139, 3, (0, [(0, 110)], .ref 57)), none, none, some (.invokestatic 113, 3, (0, [(0, 28)], .ref 50)), none, none, some (.invokevirtual 117, 3, (1, [(10, 98)], .ref 51)), none, none, some (.ireturn, 1, (0, [], .null))]
/-- LonelyDots.take(III)I -/
def lk_b74 : List (Option lk_E) := [some (.iload_n 1, 1, (0, [], .null)), some (.invokestatic 96, 3, (0, [(0, 95)], .ref 46)), none, none, some (.ifCond .eq 19, 3, (23, [], .null)), none, none, some (.iload_n 2, 1, (0, [], .null)), some (.invokestatic 96, 3, (0, [(0, 95)], .ref 46)), none, none, some (.ifCond .eq 12, 3, (23, [], .null)), none, none, some (.iload_n 3, 1, (0, [], .null)), some (.ifCond .lt 8, 3, (23, [], .null)), none, none, some (.iload_n 3, 1, (0, [], .null)), some (.iconst 4, 1, (0, [], .int (4))), some (.if_icmp .lt 6, 3, (26, [], .null)), none, none, some (.ldc 57, 2, (0, [], .int (-1000001))), none, some (.ireturn, 1, (0, [], .null)), some (.aload_n 0, 1, (0, [], .null)), some (.iload_n 2, 1, (0, [], .null)), some (.invokevirtual 142, 3, (1, [(10, 100)], .ref 58)), none, none, some (.astore 4, 2, (0, [], .null)), none, some (.aload 4, 2, (0, [], .null)), none, some (.ifnonnull 13, 3, (48, [], .null)), none, none, some (.aload_n 0, 1, (0, [], .null)), some (.aload_n 0, 1, (0, [], .null)), some (.iload_n 2, 1, (0, [], .null)), some (.invokevirtual 146, 3, (1, [(10, 101)], .ref 59)), none, none, some (.invokevirtual 58, 3, (1, [(10, 96)], .ref 41)), none, none, some (.ireturn, 1, (0, [], .null)), some (.aload 4, 2, (0, [], .null)), none, some (.getfield 149, 3, (0, [(0, 5), (2, 5), (4, 5), (5, 5), (6, 5)], .null)), none, none, some (.arraylength, 1, (0, [], .null)), some (.iconst 1, 1, (0, [], .int (1))), some (.if_icmp .le 12, 3, (67, [], .null)), none, none, some (.aload 4, 2, (0, [], .null)), none, some (.iload_n 3, 1, (0, [], .null)), some (.invokevirtual 152, 3, (2, [(0, 34), (4, 34)], .ref 60)), none, none, some (.ifCond .ne 10, 3, (74, [], .null)), none, none, some (.aload_n 0, 1, (0, [], .null)), some (.ldc 155, 2, (0, [], .int (-1000000))), none, some (.invokevirtual 66, 3, (1, [(10, 97)], .ref 43)), none, none, some (.ireturn, 1, (0, [], .null)), some (.aload_n 0, 1, (0, [], .null)), some (.iload_n 1, 1, (0, [], .null)), some (.aload 4, 2, (0, [], .null)), none, some (.iload_n 3, 1, (0, [], .null)), some (.invokevirtual 156, 3, (2, [(0, 35), (4, 35)], .ref 61)), none, none, some (.invokestatic 113, 3, (0, [(0, 28)], .ref 50)), none, none, some (.invokevirtual 117, 3, (1, [(10, 98)], .ref 51)), none, none, some (.ireturn, 1, (0, [], .null))]
/-- LonelyDots.put(III)I -/
def lk_b75 : List (Option lk_E) := [some (.iload_n 1, 1, (0, [], .null)), some (.invokestatic 96, 3, (0, [(0, 95)], .ref 46)), none, none, some (.ifCond .eq 19, 3, (23, [], .null)), none, none, some (.iload_n 2, 1, (0, [], .null)), some (.invokestatic 96, 3, (0, [(0, 95)], .ref 46)), none, none, some (.ifCond .eq 12, 3, (23, [], .null)), none, none, some (.iload_n 3, 1, (0, [], .null)), some (.ifCond .lt 8, 3, (23, [], .null)), none, none, some (.iload_n 3, 1, (0, [], .null)), some (.iconst 4, 1, (0, [], .int (4))), some (.if_icmp .lt 6, 3, (26, [], .null)), none, none, some (.ldc 57, 2, (0, [], .int (-1000001))), none, some (.ireturn, 1, (0, [], .null)), some (.aload_n 0, 1, (0, [], .null)), some (.iload_n 2, 1, (0, [], .null)), some (.invokevirtual 142, 3, (1, [(10, 100)], .ref 58)), none, none, some (.astore 4, 2, (0, [], .null)), none, some (.aload 4, 2, (0, [], .null)), none, some (.ifnonnull 13, 3, (48, [], .null)), none, none, some (.aload_n 0, 1, (0, [], .null)), some (.aload_n 0, 1, (0, [], .null)), some (.iload_n 2, 1, (0, [], .null)), some (.invokevirtual 146, 3, (1, [(10, 101)], .ref 59)), none, none, some (.invokevirtual 58, 3, (1, [(10, 96)], .ref 41)), none, none, some (.ireturn, 1, (0, [], .null)), some (.aload 4, 2, (0, [], .null)), none, some (.getfield 149, 3, (0, [(0, 5), (2, 5), (4, 5), (5, 5), (6, 5)], .null)), none, none, some (.arraylength, 1, (0, [], .null)), some (.bipush 16, 2, (0, [], .int (16))), none, some (.if_icmp .lt 6, 3, (62, [], .null)), none, none, some (.ldc 160, 2, (0, [], .int (-1000003))), none, some (.ireturn, 1, (0, [], .null)), some (.aload_n 0, 1, (0, [], .null)), some (.iload_n 1, 1, (0, [], .null)), some (.aload 4, 2, (0, [], .null)), none, some (.iload_n 3, 1, (0, [], .null)), some (.invokevirtual 161, 3, (2, [(0, 36), (4, 36)], .ref 62)), none, none, some (.invokestatic 113, 3, (0, [(0, 28)], .ref 50)), none, none, some (.invokevirtual 117, 3, (1, [(10, 98)], .ref 51)), none, none, some (.ireturn, 1, (0, [], .null))]
/-- LonelyDots.turn(III)I -/
def lk_b76 : List (Option lk_E) := [some (.iload_n 1, 1, (0, [], .null)), some (.invokestatic 96, 3, (0, [(0, 95)], .ref 46)), none, none, some (.ifCond .eq 20, 3, (24, [], .null)), none, none, some (.iload_n 2, 1, (0, [], .null)), some (.invokestatic 96, 3, (0, [(0, 95)], .ref 46)), none, none, some (.ifCond .eq 13, 3, (24, [], .null)), none, none, some (.iload_n 3, 1, (0, [], .null)), some (.ifCond .lt 9, 3, (24, [], .null)), none, none, some (.iload_n 3, 1, (0, [], .null)), some (.bipush 8, 2, (0, [], .int (8))), none, some (.if_icmp .lt 6, 3, (27, [], .null)), none, none, some (.ldc 57, 2, (0, [], .int (-1000001))), none, some (.ireturn, 1, (0, [], .null)), some (.aload_n 0, 1, (0, [], .null)), some (.iload_n 2, 1, (0, [], .null)), some (.invokevirtual 142, 3, (1, [(10, 100)], .ref 58)), none, none, some (.astore 4, 2, (0, [], .null)), none, some (.aload 4, 2, (0, [], .null)), none, some (.ifnonnull 13, 3, (49, [], .null)), none, none, some (.aload_n 0, 1, (0, [], .null)), some (.aload_n 0, 1, (0, [], .null)), some (.iload_n 2, 1, (0, [], .null)), some (.invokevirtual 146, 3, (1, [(10, 101)], .ref 59)), none, none, some (.invokevirtual 58, 3, (1, [(10, 96)], .ref 41)), none, none, some (.ireturn, 1, (0, [], .null)), some (.aload 4, 2, (0, [], .null)), none, some (.getfield 149, 3, (0, [(0, 5), (2, 5), (4, 5), (5, 5), (6, 5)], .null)), none, none, some (.arraylength, 1, (0, [], .null)), some (.newarray .int, 2, (0, [], .null)), none, some (.astore 5, 2, (0, [], .null)), none, some (.aload 5, 2, (0, [], .null)), none, some (.aload 4, 2, (0, [], .null)), none, some (.getfield 149, 3, (0, [(0, 5), (2, 5), (4, 5), (5, 5), (6, 5)], .null)), none, none, some (.iload_n 3, 1, (0, [], .null)), some (.invokestatic 164, 3, (0, [(0, 30)], .ref 9)), none, none, some (.aload_n 0, 1, (0, [], .null)), some (.iload_n 1, 1, (0, [], .null)), some (.aload 5, 2, (0, [], .null)), none, some (.invokestatic 113, 3, (0, [(0, 28)], .ref 50)), none, none, some (.invokevirtual 117, 3, (1, [(10, 98)], .ref 51)), none, none, some (.ireturn, 1, (0, [], .null))]
/-- LonelyDots.nth(III)I -/
def lk_b77 : List (Option lk_E) := [some (.iload_n 1, 1, (0, [], .null)), some (.invokestatic 96, 3, (0, [(0, 95)], .ref 46)), none, none, some (.ifCond .eq 14, 3, (18, [], .null)), none, none, some (.iload_n 2, 1, (0, [], .null)), some (.iconst 1, 1, (0, [], .int (1))), some (.if_icmp .lt 9, 3, (18, [], .null)), none, none, some (.iload_n 2, 1, (0, [], .null)), some (.bipush 7, 2, (0, [], .int (7))), none, some (.if_icmp .le 6, 3, (21, [], .null)), none, none, some (.ldc 57, 2, (0, [], .int (-1000001))), none, some (.ireturn, 1, (0, [], .null)), some (.aload_n 0, 1, (0, [], .null)), some (.iload_n 2, 1, (0, [], .null)), some (.invokevirtual 168, 3, (1, [(10, 105)], .ref 63)), none, none, some (.astore 4, 2, (0, [], .null)), none, some (.iload_n 3, 1, (0, [], .null)), some (.ifCond .lt 12, 3, (41, [], .null)), none, none, some (.iload_n 3, 1, (0, [], .null)), some (.aload 4, 2, (0, [], .null)), none, some (.getfield 172, 3, (3, [(1, 0)], .null)), none, none, some (.if_icmp .lt 10, 3, (48, [], .null)), none, none, some (.aload_n 0, 1, (0, [], .null)), some (.ldc 155, 2, (0, [], .int (-1000000))), none, some (.invokevirtual 66, 3, (1, [(10, 97)], .ref 43)), none, none, some (.ireturn, 1, (0, [], .null)), some (.aload_n 0, 1, (0, [], .null)), some (.iload_n 1, 1, (0, [], .null)), some (.new 175, 3, (0, [], .null)), none, none, some (.dup, 1, (0, [], .null)), some (.aload 4, 2, (0, [], .null)), none, some (.iload_n 3, 1, (0, [], .null)), some (.invokevirtual 177, 3, (1, [(1, 5)], .ref 64)), none, none, some (.invokespecial 180, 3, (3, [(0, 0)], .ref 22)), none, none, some (.invokevirtual 117, 3, (1, [(10, 98)], .ref 51)), none, none, some (.ireturn, 1, (0, [], .null))]
/-- LonelyDots.clear(I)I -/
def lk_b78 : List (Option lk_E) := [some (.iload_n 1, 1, (0, [], .null)), some (.invokestatic 96, 3, (0, [(0, 95)], .ref 46)), none, none, some (.ifCond .ne 6, 3, (10, [], .null)), none, none, some (.ldc 57, 2, (0, [], .int (-1000001))), none, some (.ireturn, 1, (0, [], .null)), some (.aload_n 0, 1, (0, [], .null)), some (.getfield 17, 3, (1, [(10, 0)], .null)), none, none, some (.iload_n 1, 1, (0, [], .null)), some (.aaload, 1, (0, [], .null)), some (.ifnonnull 7, 3, (23, [], .null)), none, none, some (.iconst 0, 1, (0, [], .int (0))), some (.goto 4, 3, (24, [], .null)), none, none, some (.iconst 1, 1, (0, [], .int (1))), some (.istore_n 2, 1, (0, [], .null)), some (.aload_n 0, 1, (0, [], .null)), some (.getfield 17, 3, (1, [(10, 0)], .null)), none, none, some (.iload_n 1, 1, (0, [], .null)), some (.aconst_null, 1, (0, [], .null)), some (.aastore, 1, (0, [], .null)), some (.iload_n 2, 1, (0, [], .null)), some (.ireturn, 1, (0, [], .null))]
/-- LonelyDots.kind(I)I -/
def lk_b79 : List (Option lk_E) := [some (.iload_n 1, 1, (0, [], .null)), some (.invokestatic 96, 3, (0, [(0, 95)], .ref 46)), none, none, some (.ifCond .ne 6, 3, (10, [], .null)), none, none, some (.ldc 57, 2, (0, [], .int (-1000001))), none, some (.ireturn, 1, (0, [], .null)), some (.aload_n 0, 1, (0, [], .null)), some (.getfield 17, 3, (1, [(10, 0)], .null)), none, none, some (.iload_n 1, 1, (0, [], .null)), some (.aaload, 1, (0, [], .null)), some (.astore_n 2, 1, (0, [], .null)), some (.aload_n 2, 1, (0, [], .null)), some (.ifnonnull 11, 3, (29, [], .null)), none, none, some (.aload_n 0, 1, (0, [], .null)), some (.iconst 1, 1, (0, [], .int (1))), some (.invokevirtual 58, 3, (1, [(10, 96)], .ref 41)), none, none, some (.goto 11, 3, (37, [], .null)), none, none, some (.aload_n 0, 1, (0, [], .null)), some (.aload_n 2, 1, (0, [], .null)), some (.invokevirtual 183, 3, (2, [(0, 1), (2, 15), (4, 31), (5, 40), (6, 43)], .ref 65)), none, none, some (.invokevirtual 66, 3, (1, [(10, 97)], .ref 43)), none, none, some (.ireturn, 1, (0, [], .null))]
/-- LonelyDots.is(II)I -/
def lk_b80 : List (Option lk_E) := [some (.iload_n 1, 1, (0, [], .null)), some (.invokestatic 96, 3, (0, [(0, 95)], .ref 46)), none, none, some (.ifCond .eq 13, 3, (17, [], .null)), none, none, some (.iload_n 2, 1, (0, [], .null)), some (.ifCond .lt 9, 3, (17, [], .null)), none, none, some (.iload_n 2, 1, (0, [], .null)), some (.bipush 6, 2, (0, [], .int (6))), none, some (.if_icmp .lt 6, 3, (20, [], .null)), none, none, some (.ldc 57, 2, (0, [], .int (-1000001))), none, some (.ireturn, 1, (0, [], .null)), some (.aload_n 0, 1, (0, [], .null)), some (.getfield 17, 3, (1, [(10, 0)], .null)), none, none, some (.iload_n 1, 1, (0, [], .null)), some (.aaload, 1, (0, [], .null)), some (.iload_n 2, 1, (0, [], .null)), some (.invokestatic 187, 3, (0, [(0, 102)], .ref 66)), none, none, some (.ifCond .eq 7, 3, (37, [], .null)), none, none, some (.iconst 1, 1, (0, [], .int (1))), some (.goto 4, 3, (38, [], .null)), none, none, some (.iconst 0, 1, (0, [], .int (0))), some (.ireturn, 1, (0, [], .null))]
/-- LonelyDots.as(II)I -/
def lk_b81 : List (Option lk_E) := [some (.iload_n 1, 1, (0, [], .null)), some (.invokestatic 96, 3, (0, [(0, 95)], .ref 46)), none, none, some (.ifCond .eq 13, 3, (17, [], .null)), none, none, some (.iload_n 2, 1, (0, [], .null)), some (.ifCond .lt 9, 3, (17, [], .null)), none, none, some (.iload_n 2, 1, (0, [], .null)), some (.bipush 6, 2, (0, [], .int (6))), none, some (.if_icmp .lt 6, 3, (20, [], .null)), none, none, some (.ldc 57, 2, (0, [], .int (-1000001))), none, some (.ireturn, 1, (0, [], .null)), some (.aload_n 0, 1, (0, [], .null)), some (.getfield 17, 3, (1, [(10, 0)], .null)), none, none, some (.iload_n 1, 1, (0, [], .null)), some (.aaload, 1, (0, [], .null)), some (.astore_n 3, 1, (0, [], .null)), some (.aload_n 3, 1, (0, [], .null)), some (.ifnonnull 9, 3, (37, [], .null)), none, none, some (.aload_n 0, 1, (0, [], .null)), some (.iconst 1, 1, (0, [], .int (1))), some (.invokevirtual 58, 3, (1, [(10, 96)], .ref 41)), none, none, some (.ireturn, 1, (0, [], .null)), some (.aload_n 3, 1, (0, [], .null)), some (.iload_n 2, 1, (0, [], .null)), some (.invokestatic 187, 3, (0, [(0, 102)], .ref 66)), none, none, some (.ifCond .eq 15, 3, (57, [], .null)), none, none, some (.aload_n 0, 1, (0, [], .null)), some (.aload_n 3, 1, (0, [], .null)), some (.getfield 191, 3, (0, [(0, 0), (2, 0), (4, 0), (5, 0), (6, 0)], .null)), none, none, some (.arraylength, 1, (0, [], .null)), some (.invokevirtual 66, 3, (1, [(10, 97)], .ref 43)), none, none, some (.goto 8, 3, (62, [], .null)), none, none, some (.aload_n 0, 1, (0, [], .null)), some (.iconst 3, 1, (0, [], .int (3))), some (.invokevirtual 58, 3, (1, [(10, 96)], .ref 41)), none, none, some (.ireturn, 1, (0, [], .null))]
/-- LonelyDots.ask(II)I -/
def lk_b82 : List (Option lk_E) := [some (.iload_n 1, 1, (0, [], .null)), some (.invokestatic 96, 3, (0, [(0, 95)], .ref 46)), none, none, some (.ifCond .eq 12, 3, (16, [], .null)), none, none, some (.iload_n 2, 1, (0, [], .null)), some (.ifCond .lt 8, 3, (16, [], .null)), none, none, some (.iload_n 2, 1, (0, [], .null)), some (.iconst 1, 1, (0, [], .int (1))), some (.if_icmp .le 6, 3, (19, [], .null)), none, none, some (.ldc 57, 2, (0, [], .int (-1000001))), none, some (.ireturn, 1, (0, [], .null)), some (.aload_n 0, 1, (0, [], .null)), some (.getfield 24, 3, (2, [(10, 0)], .null)), none, none, some (.invokevirtual 192, 3, (1, [(9, 62)], .ref 67)), none, none, some (.aload_n 0, 1, (0, [], .null)), some (.getfield 17, 3, (1, [(10, 0)], .null)), none, none, some (.iload_n 1, 1, (0, [], .null)), some (.aaload, 1, (0, [], .null)), some (.astore_n 3, 1, (0, [], .null)), some (.aload_n 3, 1, (0, [], .null)), some (.ifnonnull 9, 3, (43, [], .null)), none, none, some (.aload_n 0, 1, (0, [], .null)), some (.iconst 1, 1, (0, [], .int (1))), some (.invokevirtual 58, 3, (1, [(10, 96)], .ref 41)), none, none, some (.ireturn, 1, (0, [], .null)), some (.aload_n 0, 1, (0, [], .null)), some (.iload_n 2, 1, (0, [], .null)), some (.ifCond .ne 14, 3, (59, [], .null)), none, none, some (.aload_n 3, 1, (0, [], .null)), some (.aload_n 0, 1, (0, [], .null)), some (.getfield 24, 3, (2, [(10, 0)], .null)), none, none, some (.invokevirtual 195, 3, (2, [(0, 33), (2, 17), (4, 33), (5, 41), (6, 44)], .ref 32)), none, none, some (.goto 11, 3, (67, [], .null)), none, none, some (.aload_n 3, 1, (0, [], .null)), some (.aload_n 0, 1, (0, [], .null)), some (.getfield 24, 3, (2, [(10, 0)], .null)), none, none, some (.invokevirtual 199, 3, (2, [(0, 2), (2, 18), (4, 57), (5, 18), (6, 18)], .ref 68)), none, none, some (.invokevirtual 66, 3, (1, [(10, 97)], .ref 43)), none, none, some (.ireturn, 1, (0, [], .null))]
/-- LonelyDots.trace(I)I -/
def lk_b83 : List (Option lk_E) := [some (.aload_n 0, 1, (0, [], .null)), some (.getfield 24, 3, (2, [(10, 0)], .null)), none, none, some (.iload_n 1, 1, (0, [], .null)), some (.invokevirtual 202, 3, (1, [(9, 64)], .ref 69)), none, none, some (.ireturn, 1, (0, [], .null))]
/-- LonelyDots.at(II)I -/
def lk_b84 : List (Option lk_E) := [some (.iload_n 1, 1, (0, [], .null)), some (.invokestatic 96, 3, (0, [(0, 95)], .ref 46)), none, none, some (.ifCond .ne 6, 3, (10, [], .null)), none, none, some (.ldc 57, 2, (0, [], .int (-1000001))), none, some (.ireturn, 1, (0, [], .null)), some (.aload_n 0, 1, (0, [], .null)), some (.getfield 17, 3, (1, [(10, 0)], .null)), none, none, some (.iload_n 1, 1, (0, [], .null)), some (.aaload, 1, (0, [], .null)), some (.astore_n 3, 1, (0, [], .null)), some (.aload_n 3, 1, (0, [], .null)), some (.ifnonnull 9, 3, (27, [], .null)), none, none, some (.aload_n 0, 1, (0, [], .null)), some (.iconst 1, 1, (0, [], .int (1))), some (.invokevirtual 58, 3, (1, [(10, 96)], .ref 41)), none, none, some (.ireturn, 1, (0, [], .null)), some (.iload_n 2, 1, (0, [], .null)), some (.ifCond .lt 12, 3, (40, [], .null)), none, none, some (.iload_n 2, 1, (0, [], .null)), some (.aload_n 3, 1, (0, [], .null)), some (.getfield 191, 3, (0, [(0, 0), (2, 0), (4, 0), (5, 0), (6, 0)], .null)), none, none, some (.arraylength, 1, (0, [], .null)), some (.if_icmp .lt 8, 3, (45, [], .null)), none, none, some (.ldc 57, 2, (0, [], .int (-1000001))), none, some (.goto 13, 3, (55, [], .null)), none, none, some (.aload_n 0, 1, (0, [], .null)), some (.aload_n 3, 1, (0, [], .null)), some (.getfield 191, 3, (0, [(0, 0), (2, 0), (4, 0), (5, 0), (6, 0)], .null)), none, none, some (.iload_n 2, 1, (0, [], .null)), some (.iaload, 1, (0, [], .null)), some (.invokevirtual 66, 3, (1, [(10, 97)], .ref 43)), none, none, some (.ireturn, 1, (0, [], .null))]
/-- LonelyDots.alike(II)I -/
def lk_b85 : List (Option lk_E) := [some (.iload_n 1, 1, (0, [], .null)), some (.invokestatic 96, 3, (0, [(0, 95)], .ref 46)), none, none, some (.ifCond .eq 12, 3, (16, [], .null)), none, none, some (.iload_n 2, 1, (0, [], .null)), some (.ifCond .lt 8, 3, (16, [], .null)), none, none, some (.iload_n 2, 1, (0, [], .null)), some (.iconst 3, 1, (0, [], .int (3))), some (.if_icmp .le 6, 3, (19, [], .null)), none, none, some (.ldc 57, 2, (0, [], .int (-1000001))), none, some (.ireturn, 1, (0, [], .null)), some (.aload_n 0, 1, (0, [], .null)), some (.getfield 17, 3, (1, [(10, 0)], .null)), none, none, some (.iload_n 1, 1, (0, [], .null)), some (.aaload, 1, (0, [], .null)), some (.astore_n 3, 1, (0, [], .null)), some (.aload_n 3, 1, (0, [], .null)), some (.ifnonnull 11, 3, (38, [], .null)), none, none, some (.aload_n 0, 1, (0, [], .null)), some (.iconst 1, 1, (0, [], .int (1))), some (.invokevirtual 58, 3, (1, [(10, 96)], .ref 41)), none, none, some (.goto 12, 3, (47, [], .null)), none, none, some (.aload_n 0, 1, (0, [], .null)), some (.aload_n 3, 1, (0, [], .null)), some (.iload_n 2, 1, (0, [], .null)), some (.invokevirtual 205, 3, (2, [(0, 58), (2, 58), (4, 58), (5, 58), (6, 58)], .ref 70)), none, none, some (.invokevirtual 66, 3, (1, [(10, 97)], .ref 43)), none, none, some (.ireturn, 1, (0, [], .null))]
/-- LonelyDots.meeting(IIII)I -/
def lk_b86 : List (Option lk_E) := [some (.iload_n 1, 1, (0, [], .null)), some (.invokestatic 96, 3, (0, [(0, 95)], .ref 46)), none, none, some (.ifCond .eq 32, 3, (36, [], .null)), none, none, some (.iload_n 2, 1, (0, [], .null)), some (.invokestatic 96, 3, (0, [(0, 95)], .ref 46)), none, none, some (.ifCond .eq 25, 3, (36, [], .null)), none, none, some (.iload_n 3, 1, (0, [], .null)), some (.iload 4, 2, (0, [], .null)), none, some (.invokestatic 208, 3, (102, [], .null)), none, none, some (.bipush 20, 2, (0, [], .int (20))), none, some (.if_icmp .gt 14, 3, (36, [], .null)), none, none, some (.iload_n 3, 1, (0, [], .null)), some (.iload 4, 2, (0, [], .null)), none, some (.invokestatic 214, 3, (103, [], .null)), none, none, some (.bipush (-20), 2, (0, [], .int (-20))), none, some (.if_icmp .ge 6, 3, (39, [], .null)), none, none, some (.ldc 57, 2, (0, [], .int (-1000001))), none, some (.ireturn, 1, (0, [], .null)), some (.aload_n 0, 1, (0, [], .null)), some (.iload_n 1, 1, (0, [], .null)), some (.invokevirtual 142, 3, (1, [(10, 100)], .ref 58)), none, none, some (.astore 5, 2, (0, [], .null)), none, some (.aload 5, 2, (0, [], .null)), none, some (.ifnonnull 13, 3, (61, [], .null)), none, none, some (.aload_n 0, 1, (0, [], .null)), some (.aload_n 0, 1, (0, [], .null)), some (.iload_n 1, 1, (0, [], .null)), some (.invokevirtual 146, 3, (1, [(10, 101)], .ref 59)), none, none, some (.invokevirtual 58, 3, (1, [(10, 96)], .ref 41)), none, none, some (.ireturn, 1, (0, [], .null)), some (.aload_n 0, 1, (0, [], .null)), some (.iload_n 2, 1, (0, [], .null)), some (.invokevirtual 142, 3, (1, [(10, 100)], .ref 58)), none, none, some (.astore 6, 2, (0, [], .null)), none, some (.aload 6, 2, (0, [], .null)), none, some (.ifnonnull 13, 3, (83, [], .null)), none, none, some (.aload_n 0, 1, (0, [], .null)), some (.aload_n 0, 1, (0, [], .null)), some (.iload_n 2, 1, (0, [], .null)), some (.invokevirtual 146, 3, (1, [(10, 101)], .ref 59)), none, none, some (.invokevirtual 58, 3, (1, [(10, 96)], .ref 41)), none, none, some (.ireturn, 1, (0, [], .null)), some (.aload_n 0, 1, (0, [], .null)), some (.aload 5, 2, (0, [], .null)), none, some (.getfield 149, 3, (0, [(0, 5), (2, 5), (4, 5), (5, 5), (6, 5)], .null)), none, none, some (.aload 6, 2, (0, [], .null)), none, some (.getfield 149, 3, (0, [(0, 5), (2, 5), (4, 5), (5, 5), (6, 5)], .null)), none, none, some (.iload_n 3, 1, (0, [], .null)), some (.iload 4, 2, (0, [], .null)), none, some (.invokestatic 217, 3, (0, [(0, 20)], .ref 71)), none, none, some (.invokevirtual 66, 3, (1, [(10, 97)], .ref 43)), none, none, some (.ireturn, 1, (0, [], .null))]
/-- LonelyDots.most(I)I -/
def lk_b87 : List (Option lk_E) := [some (.iload_n 1, 1, (0, [], .null)), some (.invokestatic 96, 3, (0, [(0, 95)], .ref 46)), none, none, some (.ifCond .ne 6, 3, (10, [], .null)), none, none, some (.ldc 57, 2, (0, [], .int (-1000001))), none, some (.ireturn, 1, (0, [], .null)), some (.aload_n 0, 1, (0, [], .null)), some (.iload_n 1, 1, (0, [], .null)), some (.invokevirtual 142, 3, (1, [(10, 100)], .ref 58)), none, none, some (.astore_n 2, 1, (0, [], .null)), some (.aload_n 2, 1, (0, [], .null)), some (.ifnonnull 13, 3, (30, [], .null)), none, none, some (.aload_n 0, 1, (0, [], .null)), some (.aload_n 0, 1, (0, [], .null)), some (.iload_n 1, 1, (0, [], .null)), some (.invokevirtual 146, 3, (1, [(10, 101)], .ref 59)), none, none, some (.invokevirtual 58, 3, (1, [(10, 96)], .ref 41)), none, none, some (.ireturn, 1, (0, [], .null)), some (.aload_n 0, 1, (0, [], .null)), some (.aload_n 0, 1, (0, [], .null)), some (.getfield 31, 3, (3, [(10, 0)], .null)), none, none, some (.aload_n 2, 1, (0, [], .null)), some (.getfield 149, 3, (0, [(0, 5), (2, 5), (4, 5), (5, 5), (6, 5)], .null)), none, none, some (.invokevirtual 221, 3, (1, [(3, 22)], .ref 72)), none, none, some (.invokevirtual 66, 3, (1, [(10, 97)], .ref 43)), none, none, some (.ireturn, 1, (0, [], .null))]
/-- LonelyDots.together(II)I -/
def lk_b88 : List (Option lk_E) := [some (.iload_n 1, 1, (0, [], .null)), some (.invokestatic 96, 3, (0, [(0, 95)], .ref 46)), none, none, some (.ifCond .eq 10, 3, (14, [], .null)), none, none, some (.iload_n 2, 1, (0, [], .null)), some (.invokestatic 96, 3, (0, [(0, 95)], .ref 46)), none, none, some (.ifCond .ne 6, 3, (17, [], .null)), none, none, some (.ldc 57, 2, (0, [], .int (-1000001))), none, some (.ireturn, 1, (0, [], .null)), some (.aload_n 0, 1, (0, [], .null)), some (.iload_n 1, 1, (0, [], .null)), some (.invokevirtual 142, 3, (1, [(10, 100)], .ref 58)), none, none, some (.astore_n 3, 1, (0, [], .null)), some (.aload_n 3, 1, (0, [], .null)), some (.ifnonnull 13, 3, (37, [], .null)), none, none, some (.aload_n 0, 1, (0, [], .null)), some (.aload_n 0, 1, (0, [], .null)), some (.iload_n 1, 1, (0, [], .null)), some (.invokevirtual 146, 3, (1, [(10, 101)], .ref 59)), none, none, some (.invokevirtual 58, 3, (1, [(10, 96)], .ref 41)), none, none, some (.ireturn, 1, (0, [], .null)), some (.aload_n 0, 1, (0, [], .null)), some (.iload_n 2, 1, (0, [], .null)), some (.invokevirtual 142, 3, (1, [(10, 100)], .ref 58)), none, none, some (.astore 4, 2, (0, [], .null)), none, some (.aload 4, 2, (0, [], .null)), none, some (.ifnonnull 13, 3, (59, [], .null)), none, none, some (.aload_n 0, 1, (0, [], .null)), some (.aload_n 0, 1, (0, [], .null)), some (.iload_n 2, 1, (0, [], .null)), some (.invokevirtual 146, 3, (1, [(10, 101)], .ref 59)), none, none, some (.invokevirtual 58, 3, (1, [(10, 96)], .ref 41)), none, none, some (.ireturn, 1, (0, [], .null)), some (.aload_n 0, 1, (0, [], .null)), some (.aload_n 0, 1, (0, [], .null)), some (.getfield 31, 3, (3, [(10, 0)], .null)), none, none, some (.aload_n 3, 1, (0, [], .null)), some (.getfield 149, 3, (0, [(0, 5), (2, 5), (4, 5), (5, 5), (6, 5)], .null)), none, none, some (.aload 4, 2, (0, [], .null)), none, some (.getfield 149, 3, (0, [(0, 5), (2, 5), (4, 5), (5, 5), (6, 5)], .null)), none, none, some (.invokevirtual 225, 3, (1, [(3, 21)], .ref 73)), none, none, some (.invokevirtual 66, 3, (1, [(10, 97)], .ref 43)), none, none, some (.ireturn, 1, (0, [], .null))]
/-- LonelyDots.echo(IIIII)I -/
def lk_b89 : List (Option lk_E) := [some (.iload_n 1, 1, (0, [], .null)), some (.invokestatic 96, 3, (0, [(0, 95)], .ref 46)), none, none, some (.ifCond .eq 34, 3, (38, [], .null)), none, none, some (.iload_n 2, 1, (0, [], .null)), some (.invokestatic 53, 3, (0, [(0, 94)], .ref 40)), none, none, some (.ifCond .eq 27, 3, (38, [], .null)), none, none, some (.iload 4, 2, (0, [], .null)), none, some (.iconst 1, 1, (0, [], .int (1))), some (.if_icmp .lt 21, 3, (38, [], .null)), none, none, some (.iload 4, 2, (0, [], .null)), none, some (.bipush 30, 2, (0, [], .int (30))), none, some (.if_icmp .gt 14, 3, (38, [], .null)), none, none, some (.iload 5, 2, (0, [], .null)), none, some (.ifCond .lt 9, 3, (38, [], .null)), none, none, some (.iload 5, 2, (0, [], .null)), none, some (.iconst 2, 1, (0, [], .int (2))), some (.if_icmp .le 6, 3, (41, [], .null)), none, none, some (.ldc 57, 2, (0, [], .int (-1000001))), none, some (.ireturn, 1, (0, [], .null)), some (.aload_n 0, 1, (0, [], .null)), some (.iload_n 1, 1, (0, [], .null)), some (.invokevirtual 142, 3, (1, [(10, 100)], .ref 58)), none, none, some (.astore 6, 2, (0, [], .null)), none, some (.aload 6, 2, (0, [], .null)), none, some (.ifnonnull 13, 3, (63, [], .null)), none, none, some (.aload_n 0, 1, (0, [], .null)), some (.aload_n 0, 1, (0, [], .null)), some (.iload_n 1, 1, (0, [], .null)), some (.invokevirtual 146, 3, (1, [(10, 101)], .ref 59)), none, none, some (.invokevirtual 58, 3, (1, [(10, 96)], .ref 41)), none, none, some (.ireturn, 1, (0, [], .null)), some (.aload_n 0, 1, (0, [], .null)), some (.iload_n 2, 1, (0, [], .null)), some (.iload_n 3, 1, (0, [], .null)), some (.iconst 2, 1, (0, [], .int (2))), some (.iload 4, 2, (0, [], .null)), none, some (.imul, 1, (0, [], .null)), some (.invokevirtual 99, 3, (1, [(10, 99)], .ref 47)), none, none, some (.istore 7, 2, (0, [], .null)), none, some (.iload 7, 2, (0, [], .null)), none, some (.ifCond .eq 10, 3, (87, [], .null)), none, none, some (.aload_n 0, 1, (0, [], .null)), some (.iload 7, 2, (0, [], .null)), none, some (.invokevirtual 58, 3, (1, [(10, 96)], .ref 41)), none, none, some (.ireturn, 1, (0, [], .null)), some (.aload_n 0, 1, (0, [], .null)), some (.aload_n 0, 1, (0, [], .null)), some (.getfield 31, 3, (3, [(10, 0)], .null)), none, none, some (.iload 5, 2, (0, [], .null)), none, some (.aload 6, 2, (0, [], .null)), none, some (.getfield 149, 3, (0, [(0, 5), (2, 5), (4, 5), (5, 5), (6, 5)], .null)), none, none, some (.aload_n 0, 1, (0, [], .null)), some (.getfield 11, 3, (0, [(10, 0)], .null)), none, none, some (.iload_n 2, 1, (0, [], .null)), some (.aaload, 1, (0, [], .null)), some (.getfield 77, 3, (0, [(8, 0)], .null)), none, none, some (.iload_n 3, 1, (0, [], .null)), some (.iload 4, 2, (0, [], .null)), none, some (.invokevirtual 229, 3, (1, [(3, 24)], .ref 74)), none, none, some (.invokevirtual 66, 3, (1, [(10, 97)], .ref 43)), none, none, some (.ireturn, 1, (0, [], .null))]
/-- LonelyDots.lonely(II)I -/
def lk_b90 : List (Option lk_E) := [some (.iload_n 1, 1, (0, [], .null)), some (.iconst 1, 1, (0, [], .int (1))), some (.if_icmp .lt 18, 3, (20, [], .null)), none, none, some (.iload_n 1, 1, (0, [], .null)), some (.bipush 7, 2, (0, [], .int (7))), none, some (.if_icmp .gt 12, 3, (20, [], .null)), none, none, some (.iload_n 2, 1, (0, [], .null)), some (.ifCond .lt 8, 3, (20, [], .null)), none, none, some (.iload_n 2, 1, (0, [], .null)), some (.iconst 1, 1, (0, [], .int (1))), some (.if_icmp .le 6, 3, (23, [], .null)), none, none, some (.ldc 57, 2, (0, [], .int (-1000001))), none, some (.ireturn, 1, (0, [], .null)), some (.aload_n 0, 1, (0, [], .null)), some (.iload_n 1, 1, (0, [], .null)), some (.invokevirtual 168, 3, (1, [(10, 105)], .ref 63)), none, none, some (.astore_n 3, 1, (0, [], .null)), some (.iload_n 2, 1, (0, [], .null)), some (.ifCond .ne 10, 3, (40, [], .null)), none, none, some (.aload_n 3, 1, (0, [], .null)), some (.getfield 172, 3, (3, [(1, 0)], .null)), none, none, some (.goto 7, 3, (44, [], .null)), none, none, some (.aload_n 3, 1, (0, [], .null)), some (.getfield 233, 3, (4, [(1, 0)], .null)), none, none, some (.ireturn, 1, (0, [], .null))]
/-- LonelyDots.shortest(I)I -/
def lk_b91 : List (Option lk_E) := [some (.iload_n 1, 1, (0, [], .null)), some (.iconst 1, 1, (0, [], .int (1))), some (.if_icmp .lt 9, 3, (11, [], .null)), none, none, some (.iload_n 1, 1, (0, [], .null)), some (.bipush 6, 2, (0, [], .int (6))), none, some (.if_icmp .le 6, 3, (14, [], .null)), none, none, some (.ldc 57, 2, (0, [], .int (-1000001))), none, some (.ireturn, 1, (0, [], .null)), some (.aload_n 0, 1, (0, [], .null)), some (.getfield 44, 3, (5, [(10, 0)], .null)), none, none, some (.iload_n 1, 1, (0, [], .null)), some (.invokevirtual 236, 3, (1, [(7, 46)], .ref 75)), none, none, some (.ireturn, 1, (0, [], .null))]
/-- LonelyDots.count(I)I -/
def lk_b92 : List (Option lk_E) := [some (.iload_n 1, 1, (0, [], .null)), some (.ifCond .lt 8, 3, (9, [], .null)), none, none, some (.iload_n 1, 1, (0, [], .null)), some (.iconst 5, 1, (0, [], .int (5))), some (.if_icmp .le 6, 3, (12, [], .null)), none, none, some (.ldc 57, 2, (0, [], .int (-1000001))), none, some (.ireturn, 1, (0, [], .null)), some (.iload_n 1, 1, (0, [], .null)), some (.ifCond .ne 10, 3, (23, [], .null)), none, none, some (.aload_n 0, 1, (0, [], .null)), some (.invokevirtual 239, 3, (1, [(10, 103)], .ref 76)), none, none, some (.goto 10, 3, (30, [], .null)), none, none, some (.aload_n 0, 1, (0, [], .null)), some (.iload_n 1, 1, (0, [], .null)), some (.iconst 1, 1, (0, [], .int (1))), some (.isub, 1, (0, [], .null)), some (.invokevirtual 242, 3, (1, [(10, 104)], .ref 77)), none, none, some (.ireturn, 1, (0, [], .null))]
/-- LonelyDots.status()I -/
def lk_b93 : List (Option lk_E) := [some (.aload_n 0, 1, (0, [], .null)), some (.getfield 48, 3, (6, [(10, 0)], .null)), none, none, some (.ireturn, 1, (0, [], .null))]
/-- LonelyDots.isSheet(I)Z -/
def lk_b94 : List (Option lk_E) := [some (.iload_n 0, 1, (0, [], .null)), some (.ifCond .lt 13, 3, (14, [], .null)), none, none, some (.iload_n 0, 1, (0, [], .null)), some (.bipush 8, 2, (0, [], .int (8))), none, some (.if_icmp .ge 7, 3, (14, [], .null)), none, none, some (.iconst 1, 1, (0, [], .int (1))), some (.goto 4, 3, (15, [], .null)), none, none, some (.iconst 0, 1, (0, [], .int (0))), some (.ireturn, 1, (0, [], .null))]
/-- LonelyDots.isPlace(I)Z -/
def lk_b95 : List (Option lk_E) := [some (.iload_n 0, 1, (0, [], .null)), some (.ifCond .lt 13, 3, (14, [], .null)), none, none, some (.iload_n 0, 1, (0, [], .null)), some (.bipush 10, 2, (0, [], .int (10))), none, some (.if_icmp .ge 7, 3, (14, [], .null)), none, none, some (.iconst 1, 1, (0, [], .int (1))), some (.goto 4, 3, (15, [], .null)), none, none, some (.iconst 0, 1, (0, [], .int (0))), some (.ireturn, 1, (0, [], .null))]
/-- LonelyDots.found(I)I -/
def lk_b96 : List (Option lk_E) := [some (.aload_n 0, 1, (0, [], .null)), some (.iload_n 1, 1, (0, [], .null)), some (.putfield 48, 3, (6, [(10, 0)], .null)), none, none, some (.ldc 245, 2, (0, [], .int (-1000010))), none, some (.iload_n 1, 1, (0, [], .null)), some (.isub, 1, (0, [], .null)), some (.ireturn, 1, (0, [], .null))]
/-- LonelyDots.settled(I)I -/
def lk_b97 : List (Option lk_E) := [some (.aload_n 0, 1, (0, [], .null)), some (.iconst 0, 1, (0, [], .int (0))), some (.putfield 48, 3, (6, [(10, 0)], .null)), none, none, some (.iload_n 1, 1, (0, [], .null)), some (.ireturn, 1, (0, [], .null))]
/-- LonelyDots.shelve(ILLonelyDots$Thing;)I -/
def lk_b98 : List (Option lk_E) := [some (.aload_n 0, 1, (0, [], .null)), some (.getfield 17, 3, (1, [(10, 0)], .null)), none, none, some (.iload_n 1, 1, (0, [], .null)), some (.aload_n 2, 1, (0, [], .null)), some (.aastore, 1, (0, [], .null)), some (.aload_n 0, 1, (0, [], .null)), some (.aload_n 2, 1, (0, [], .null)), some (.invokevirtual 183, 3, (2, [(0, 1), (2, 15), (4, 31), (5, 40), (6, 43)], .ref 65)), none, none, some (.invokevirtual 66, 3, (1, [(10, 97)], .ref 43)), none, none, some (.ireturn, 1, (0, [], .null))]
/-- LonelyDots.findingOfItems(III)I -/
def lk_b99 : List (Option lk_E) := [some (.aload_n 0, 1, (0, [], .null)), some (.getfield 11, 3, (0, [(10, 0)], .null)), none, none, some (.iload_n 1, 1, (0, [], .null)), some (.aaload, 1, (0, [], .null)), some (.getfield 69, 3, (1, [(8, 0)], .null)), none, none, some (.ifCond .eq 5, 3, (14, [], .null)), none, none, some (.iconst 1, 1, (0, [], .int (1))), some (.ireturn, 1, (0, [], .null)), some (.aload_n 0, 1, (0, [], .null)), some (.getfield 11, 3, (0, [(10, 0)], .null)), none, none, some (.iload_n 1, 1, (0, [], .null)), some (.aaload, 1, (0, [], .null)), some (.iload_n 2, 1, (0, [], .null)), some (.iload_n 3, 1, (0, [], .null)), some (.invokevirtual 73, 3, (1, [(8, 52)], .ref 44)), none, none, some (.ifCond .eq 7, 3, (32, [], .null)), none, none, some (.iconst 0, 1, (0, [], .int (0))), some (.goto 4, 3, (33, [], .null)), none, none, some (.iconst 2, 1, (0, [], .int (2))), some (.ireturn, 1, (0, [], .null))]
/-- LonelyDots.orderAt(I)LLonelyDots$Order; -/
def lk_b100 : List (Option lk_E) := [some (.aload_n 0, 1, (0, [], .null)), some (.getfield 17, 3, (1, [(10, 0)], .null)), none, none, some (.iload_n 1, 1, (0, [], .null)), some (.aaload, 1, (0, [], .null)), some (.astore_n 2, 1, (0, [], .null)), some (.aload_n 2, 1, (0, [], .null)), some (.instanceof 108, 3, (4, [(0, 1), (2, 0), (4, 1), (5, 0), (6, 0)], .null)), none, none, some (.ifCond .eq 10, 3, (21, [], .null)), none, none, some (.aload_n 2, 1, (0, [], .null)), some (.checkcast 108, 3, (4, [(0, 1), (4, 1)], .null)), none, none, some (.goto 4, 3, (22, [], .null)), none, none, some (.aconst_null, 1, (0, [], .null)), some (.areturn, 1, (0, [], .null))]
/-- LonelyDots.findingOfNoOrder(I)I -/
def lk_b101 : List (Option lk_E) := [some (.aload_n 0, 1, (0, [], .null)), some (.getfield 17, 3, (1, [(10, 0)], .null)), none, none, some (.iload_n 1, 1, (0, [], .null)), some (.aaload, 1, (0, [], .null)), some (.ifnonnull 7, 3, (13, [], .null)), none, none, some (.iconst 1, 1, (0, [], .int (1))), some (.goto 4, 3, (14, [], .null)), none, none, some (.iconst 3, 1, (0, [], .int (3))), some (.ireturn, 1, (0, [], .null))]
/-- LonelyDots.isOfKind(LLonelyDots$Thing;I)Z -/
def lk_b102 : List (Option lk_E) := [some (.iload_n 1, 1, (0, [], .null)), some (.tableswitch 74 0 5 #[39, 49, 54, 59, 64, 69], 39, (75, [(0, 40), (1, 50), (2, 55), (3, 60), (4, 65), (5, 70)], .null)), none, none, none, none, none, none, none, none, none, none, none, none, none, none, none, none, none, none, none, none, none, none, none, none, none, none, none, none, none, none, none, none, none, none, none, none, none, none, some (.aload_n 0, 1, (0, [], .null)), some (.ifnull 7, 3, (48, [], .null)), none, none, some (.iconst 1, 1, (0, [], .int (1))), some (.goto 4, 3, (49, [], .null)), none, none, some (.iconst 0, 1, (0, [], .int (0))), some (.ireturn, 1, (0, [], .null)), some (.aload_n 0, 1, (0, [], .null)), some (.instanceof 108, 3, (4, [(0, 1), (2, 0), (4, 1), (5, 0), (6, 0)], .null)), none, none, some (.ireturn, 1, (0, [], .null)), some (.aload_n 0, 1, (0, [], .null)), some (.instanceof 175, 3, (0, [(0, 1), (2, 0), (4, 0), (5, 0), (6, 0)], .null)), none, none, some (.ireturn, 1, (0, [], .null)), some (.aload_n 0, 1, (0, [], .null)), some (.instanceof 122, 3, (2, [(0, 0), (2, 1), (4, 0), (5, 1), (6, 1)], .null)), none, none, some (.ireturn, 1, (0, [], .null)), some (.aload_n 0, 1, (0, [], .null)), some (.instanceof 246, 3, (6, [(0, 0), (2, 0), (4, 0), (5, 1), (6, 1)], .null)), none, none, some (.ireturn, 1, (0, [], .null)), some (.aload_n 0, 1, (0, [], .null)), some (.instanceof 248, 3, (5, [(0, 0), (2, 0), (4, 0), (5, 1), (6, 0)], .null)), none, none, some (.ireturn, 1, (0, [], .null)), some (.iconst 0, 1, (0, [], .int (0))), some (.ireturn, 1, (0, [], .null))]
/-- LonelyDots.sheetsThere()I -/
def lk_b103 : List (Option lk_E) := [some (.iconst 0, 1, (0, [], .int (0))), some (.istore_n 1, 1, (0, [], .null)), some (.iconst 0, 1, (0, [], .int (0))), some (.istore_n 2, 1, (0, [], .null)), some (.iload_n 2, 1, (0, [], .null)), some (.bipush 8, 2, (0, [], .int (8))), none, some (.if_icmp .ge 24, 3, (31, [], .null)), none, none, some (.aload_n 0, 1, (0, [], .null)), some (.getfield 11, 3, (0, [(10, 0)], .null)), none, none, some (.iload_n 2, 1, (0, [], .null)), some (.aaload, 1, (0, [], .null)), some (.getfield 69, 3, (1, [(8, 0)], .null)), none, none, some (.ifCond .ne 6, 3, (25, [], .null)), none, none, some (.iinc 1 1, 3, (0, [], .int (1))), none, none, some (.iinc 2 1, 3, (0, [], .int (1))), none, none, some (.goto (-24), 3, (4, [], .null)), none, none, some (.iload_n 1, 1, (0, [], .null)), some (.ireturn, 1, (0, [], .null))]
/-- LonelyDots.thingsOfKind(I)I -/
def lk_b104 : List (Option lk_E) := [some (.iconst 0, 1, (0, [], .int (0))), some (.istore_n 2, 1, (0, [], .null)), some (.iconst 0, 1, (0, [], .int (0))), some (.istore_n 3, 1, (0, [], .null)), some (.iload_n 3, 1, (0, [], .null)), some (.bipush 10, 2, (0, [], .int (10))), none, some (.if_icmp .ge 25, 3, (32, [], .null)), none, none, some (.aload_n 0, 1, (0, [], .null)), some (.getfield 17, 3, (1, [(10, 0)], .null)), none, none, some (.iload_n 3, 1, (0, [], .null)), some (.aaload, 1, (0, [], .null)), some (.iload_n 1, 1, (0, [], .null)), some (.invokestatic 187, 3, (0, [(0, 102)], .ref 66)), none, none, some (.ifCond .eq 6, 3, (26, [], .null)), none, none, some (.iinc 2 1, 3, (0, [], .int (1))), none, none, some (.iinc 3 1, 3, (0, [], .int (1))), none, none, some (.goto (-25), 3, (4, [], .null)), none, none, some (.iload_n 2, 1, (0, [], .null)), some (.ireturn, 1, (0, [], .null))]
/-- LonelyDots.lonelyList(I)LLonelyDots$LonelyList; -/
def lk_b105 : List (Option lk_E) := [some (.aload_n 0, 1, (0, [], .null)), some (.getfield 37, 3, (4, [(10, 0)], .null)), none, none, some (.iload_n 1, 1, (0, [], .null)), some (.aaload, 1, (0, [], .null)), some (.ifnonnull 13, 3, (19, [], .null)), none, none, some (.aload_n 0, 1, (0, [], .null)), some (.getfield 37, 3, (4, [(10, 0)], .null)), none, none, some (.iload_n 1, 1, (0, [], .null)), some (.iload_n 1, 1, (0, [], .null)), some (.invokestatic 250, 3, (0, [(0, 4)], .ref 78)), none, none, some (.aastore, 1, (0, [], .null)), some (.aload_n 0, 1, (0, [], .null)), some (.getfield 37, 3, (4, [(10, 0)], .null)), none, none, some (.iload_n 1, 1, (0, [], .null)), some (.aaload, 1, (0, [], .null)), some (.areturn, 1, (0, [], .null))]
/-- LonelyDots.isPrime(I)Z -/
def lk_b106 : List (Option lk_E) := [some (.iload_n 0, 1, (0, [], .null)), some (.iconst 2, 1, (0, [], .int (2))), some (.if_icmp .lt 9, 3, (11, [], .null)), none, none, some (.iload_n 0, 1, (0, [], .null)), some (.bipush 17, 2, (0, [], .int (17))), none, some (.if_icmp .le 5, 3, (13, [], .null)), none, none, some (.iconst 0, 1, (0, [], .int (0))), some (.ireturn, 1, (0, [], .null)), some (.iconst 2, 1, (0, [], .int (2))), some (.istore_n 1, 1, (0, [], .null)), some (.iload_n 1, 1, (0, [], .null)), some (.iload_n 0, 1, (0, [], .null)), some (.if_icmp .ge 17, 3, (34, [], .null)), none, none, some (.iload_n 0, 1, (0, [], .null)), some (.iload_n 1, 1, (0, [], .null)), some (.irem, 1, (0, [], .null)), some (.ifCond .ne 5, 3, (28, [], .null)), none, none, some (.iconst 0, 1, (0, [], .int (0))), some (.ireturn, 1, (0, [], .null)), some (.iinc 1 1, 3, (0, [], .int (1))), none, none, some (.goto (-16), 3, (15, [], .null)), none, none, some (.iconst 1, 1, (0, [], .int (1))), some (.ireturn, 1, (0, [], .null))]
/-- LonelyDots.isRoot(II)Z -/
def lk_b107 : List (Option lk_E) := [some (.iload_n 0, 1, (0, [], .null)), some (.iconst 1, 1, (0, [], .int (1))), some (.if_icmp .lt 24, 3, (26, [], .null)), none, none, some (.iload_n 0, 1, (0, [], .null)), some (.iload_n 1, 1, (0, [], .null)), some (.if_icmp .ge 19, 3, (26, [], .null)), none, none, some (.iload_n 0, 1, (0, [], .null)), some (.iconst 1, 1, (0, [], .int (1))), some (.iload_n 1, 1, (0, [], .null)), some (.invokestatic 253, 3, (0, [(0, 108)], .ref 79)), none, none, some (.iload_n 1, 1, (0, [], .null)), some (.iconst 1, 1, (0, [], .int (1))), some (.isub, 1, (0, [], .null)), some (.if_icmp .ne 7, 3, (26, [], .null)), none, none, some (.iconst 1, 1, (0, [], .int (1))), some (.goto 4, 3, (27, [], .null)), none, none, some (.iconst 0, 1, (0, [], .int (0))), some (.ireturn, 1, (0, [], .null))]
/-- LonelyDots.exponent(III)I -/
def lk_b108 : List (Option lk_E) := [some (.iload_n 0, 1, (0, [], .null)), some (.istore_n 3, 1, (0, [], .null)), some (.iconst 1, 1, (0, [], .int (1))), some (.istore 4, 2, (0, [], .null)), none, some (.iload 4, 2, (0, [], .null)), none, some (.iload_n 2, 1, (0, [], .null)), some (.iconst 1, 1, (0, [], .int (1))), some (.isub, 1, (0, [], .null)), some (.if_icmp .ge 20, 3, (30, [], .null)), none, none, some (.iload_n 3, 1, (0, [], .null)), some (.iload_n 1, 1, (0, [], .null)), some (.if_icmp .eq 15, 3, (30, [], .null)), none, none, some (.iload_n 3, 1, (0, [], .null)), some (.iload_n 0, 1, (0, [], .null)), some (.imul, 1, (0, [], .null)), some (.iload_n 2, 1, (0, [], .null)), some (.irem, 1, (0, [], .null)), some (.istore_n 3, 1, (0, [], .null)), some (.iinc 4 1, 3, (0, [], .int (1))), none, none, some (.goto (-22), 3, (5, [], .null)), none, none, some (.iload 4, 2, (0, [], .null)), none, some (.ireturn, 1, (0, [], .null))]
/-- LonelyDots.columnsByPowers(III)[I -/
def lk_b109 : List (Option lk_E) := [some (.iload_n 0, 1, (0, [], .null)), some (.iconst 1, 1, (0, [], .int (1))), some (.isub, 1, (0, [], .null)), some (.newarray .int, 2, (0, [], .null)), none, some (.astore_n 3, 1, (0, [], .null)), some (.iconst 1, 1, (0, [], .int (1))), some (.istore 4, 2, (0, [], .null)), none, some (.iconst 0, 1, (0, [], .int (0))), some (.istore 5, 2, (0, [], .null)), none, some (.iload 5, 2, (0, [], .null)), none, some (.iload_n 2, 1, (0, [], .null)), some (.if_icmp .gt 17, 3, (32, [], .null)), none, none, some (.iload 4, 2, (0, [], .null)), none, some (.iload_n 1, 1, (0, [], .null)), some (.imul, 1, (0, [], .null)), some (.iload_n 0, 1, (0, [], .null)), some (.irem, 1, (0, [], .null)), some (.istore 4, 2, (0, [], .null)), none, some (.iinc 5 1, 3, (0, [], .int (1))), none, none, some (.goto (-17), 3, (12, [], .null)), none, none, some (.iconst 0, 1, (0, [], .int (0))), some (.istore 5, 2, (0, [], .null)), none, some (.iload 5, 2, (0, [], .null)), none, some (.aload_n 3, 1, (0, [], .null)), some (.arraylength, 1, (0, [], .null)), some (.if_icmp .ge 25, 3, (64, [], .null)), none, none, some (.aload_n 3, 1, (0, [], .null)), some (.iload 5, 2, (0, [], .null)), none, some (.iload 4, 2, (0, [], .null)), none, some (.iconst 1, 1, (0, [], .int (1))), some (.isub, 1, (0, [], .null)), some (.iastore, 1, (0, [], .null)), some (.iload 4, 2, (0, [], .null)), none, some (.iload_n 1, 1, (0, [], .null)), some (.imul, 1, (0, [], .null)), some (.iload_n 0, 1, (0, [], .null)), some (.irem, 1, (0, [], .null)), some (.istore 4, 2, (0, [], .null)), none, some (.iinc 5 1, 3, (0, [], .int (1))), none, none, some (.goto (-26), 3, (35, [], .null)), none, none, some (.aload_n 3, 1, (0, [], .null)), some (.areturn, 1, (0, [], .null))]
/-- LonelyDots.columnsBySums(III)[I -/
def lk_b110 : List (Option lk_E) := [some (.iload_n 0, 1, (0, [], .null)), some (.iconst 2, 1, (0, [], .int (2))), some (.isub, 1, (0, [], .null)), some (.newarray .int, 2, (0, [], .null)), none, some (.astore_n 3, 1, (0, [], .null)), some (.iload_n 1, 1, (0, [], .null)), some (.istore 4, 2, (0, [], .null)), none, some (.iconst 0, 1, (0, [], .int (0))), some (.istore 5, 2, (0, [], .null)), none, some (.iload 5, 2, (0, [], .null)), none, some (.aload_n 3, 1, (0, [], .null)), some (.arraylength, 1, (0, [], .null)), some (.if_icmp .ge 34, 3, (50, [], .null)), none, none, some (.aload_n 3, 1, (0, [], .null)), some (.iload 5, 2, (0, [], .null)), none, some (.iload_n 2, 1, (0, [], .null)), some (.iload_n 0, 1, (0, [], .null)), some (.iconst 1, 1, (0, [], .int (1))), some (.iadd, 1, (0, [], .null)), some (.iload 4, 2, (0, [], .null)), none, some (.isub, 1, (0, [], .null)), some (.iload_n 0, 1, (0, [], .null)), some (.invokestatic 253, 3, (0, [(0, 108)], .ref 79)), none, none, some (.iconst 1, 1, (0, [], .int (1))), some (.isub, 1, (0, [], .null)), some (.iastore, 1, (0, [], .null)), some (.iload 4, 2, (0, [], .null)), none, some (.iload_n 1, 1, (0, [], .null)), some (.imul, 1, (0, [], .null)), some (.iload_n 0, 1, (0, [], .null)), some (.irem, 1, (0, [], .null)), some (.istore 4, 2, (0, [], .null)), none, some (.iinc 5 1, 3, (0, [], .int (1))), none, none, some (.goto (-35), 3, (12, [], .null)), none, none, some (.aload_n 3, 1, (0, [], .null)), some (.areturn, 1, (0, [], .null))]
/-- LonelyDotsModel.<init>()V -/
def lk_b111 : List (Option lk_E) := [some (.aload_n 0, 1, (0, [], .null)), some (.invokespecial 1, 3, (100, [], .null)), none, none, some (.aload_n 0, 1, (0, [], .null)), some (.bipush 8, 2, (0, [], .int (8))), none, some (.newarray .int, 2, (0, [], .null)), none, some (.putfield 7, 3, (0, [(11, 0)], .null)), none, none, some (.aload_n 0, 1, (0, [], .null)), some (.bipush 8, 2, (0, [], .int (8))), none, some (.newarray .int, 2, (0, [], .null)), none, some (.putfield 13, 3, (1, [(11, 0)], .null)), none, none, some (.aload_n 0, 1, (0, [], .null)), some (.sipush 480, 3, (0, [], .int (480))), none, none, some (.newarray .int, 2, (0, [], .null)), none, some (.putfield 16, 3, (2, [(11, 0)], .null)), none, none, some (.aload_n 0, 1, (0, [], .null)), some (.bipush 60, 2, (0, [], .int (60))), none, some (.newarray .int, 2, (0, [], .null)), none, some (.putfield 19, 3, (3, [(11, 0)], .null)), none, none, some (.aload_n 0, 1, (0, [], .null)), some (.bipush 11, 2, (0, [], .int (11))), none, some (.newarray .int, 2, (0, [], .null)), none, some (.putfield 22, 3, (4, [(11, 0)], .null)), none, none, some (.aload_n 0, 1, (0, [], .null)), some (.bipush 11, 2, (0, [], .int (11))), none, some (.newarray .int, 2, (0, [], .null)), none, some (.putfield 25, 3, (5, [(11, 0)], .null)), none, none, some (.aload_n 0, 1, (0, [], .null)), some (.sipush 176, 3, (0, [], .int (176))), none, none, some (.newarray .int, 2, (0, [], .null)), none, some (.putfield 28, 3, (6, [(11, 0)], .null)), none, none, some (.aload_n 0, 1, (0, [], .null)), some (.bipush 16, 2, (0, [], .int (16))), none, some (.newarray .int, 2, (0, [], .null)), none, some (.putfield 31, 3, (8, [(11, 0)], .null)), none, none, some (.aload_n 0, 1, (0, [], .null)), some (.iconst 4, 1, (0, [], .int (4))), some (.newarray .int, 2, (0, [], .null)), none, some (.putfield 34, 3, (10, [(11, 0)], .null)), none, none, some (.aload_n 0, 1, (0, [], .null)), some (.bipush 16, 2, (0, [], .int (16))), none, some (.newarray .boolean, 2, (0, [], .null)), none, some (.putfield 37, 3, (11, [(11, 0)], .null)), none, none, some (.aload_n 0, 1, (0, [], .null)), some (.bipush 8, 2, (0, [], .int (8))), none, some (.newarray .int, 2, (0, [], .null)), none, some (.putfield 41, 3, (12, [(11, 0)], .null)), none, none, some (.aload_n 0, 1, (0, [], .null)), some (.bipush 8, 2, (0, [], .int (8))), none, some (.newarray .int, 2, (0, [], .null)), none, some (.putfield 44, 3, (13, [(11, 0)], .null)), none, none, some (.aload_n 0, 1, (0, [], .null)), some (.bipush 7, 2, (0, [], .int (7))), none, some (.newarray .int, 2, (0, [], .null)), none, some (.putfield 47, 3, (15, [(11, 0)], .null)), none, none, some (.aload_n 0, 1, (0, [], .null)), some (.bipush 6, 2, (0, [], .int (6))), none, some (.newarray .int, 2, (0, [], .null)), none, some (.putfield 50, 3, (16, [(11, 0)], .null)), none, none, some (.return_, 1, (0, [], .null))]
/-- LonelyDotsModel.in(JJJ)Z -/
def lk_b112 : List (Option lk_E) := [some (.lload_n 0, 1, (0, [], .null)), some (.lload_n 2, 1, (0, [], .null)), some (.lcmp, 1, (0, [], .null)), some (.ifCond .lt 14, 3, (17, [], .null)), none, none, some (.lload_n 0, 1, (0, [], .null)), some (.lload 4, 2, (0, [], .null)), none, some (.lcmp, 1, (0, [], .null)), some (.ifCond .gt 7, 3, (17, [], .null)), none, none, some (.iconst 1, 1, (0, [], .int (1))), some (.goto 4, 3, (18, [], .null)), none, none, some (.iconst 0, 1, (0, [], .int (0))), some (.ireturn, 1, (0, [], .null))]
/-- LonelyDotsModel.finds(I)I -/
def lk_b113 : List (Option lk_E) := [some (.aload_n 0, 1, (0, [], .null)), some (.iload_n 1, 1, (0, [], .null)), some (.putfield 53, 3, (7, [(11, 0)], .null)), none, none, some (.ldc 57, 2, (0, [], .int (-1000010))), none, some (.iload_n 1, 1, (0, [], .null)), some (.isub, 1, (0, [], .null)), some (.ireturn, 1, (0, [], .null))]
/-- LonelyDotsModel.well(I)I -/
def lk_b114 : List (Option lk_E) := [some (.aload_n 0, 1, (0, [], .null)), some (.iconst 0, 1, (0, [], .int (0))), some (.putfield 53, 3, (7, [(11, 0)], .null)), none, none, some (.iload_n 1, 1, (0, [], .null)), some (.ireturn, 1, (0, [], .null))]
/-- LonelyDotsModel.isSheet(I)Z -/
def lk_b115 : List (Option lk_E) := [some (.iload_n 0, 1, (0, [], .null)), some (.i2l, 1, (0, [], .null)), some (.lconst 0, 1, (0, [], .long 0)), some (.ldc2_w 58, 3, (0, [], .long (7))), none, none, some (.invokestatic 60, 3, (0, [(0, 112)], .ref 80)), none, none, some (.ireturn, 1, (0, [], .null))]
/-- LonelyDotsModel.sheet(III)I -/
def lk_b116 : List (Option lk_E) := [some (.iload_n 1, 1, (0, [], .null)), some (.invokestatic 64, 3, (0, [(0, 115)], .ref 81)), none, none, some (.ifCond .eq 21, 3, (25, [], .null)), none, none, some (.iload_n 2, 1, (0, [], .null)), some (.i2l, 1, (0, [], .null)), some (.lconst 0, 1, (0, [], .long 0)), some (.ldc2_w 68, 3, (0, [], .long (2))), none, none, some (.invokestatic 60, 3, (0, [(0, 112)], .ref 80)), none, none, some (.ifCond .eq 9, 3, (25, [], .null)), none, none, some (.iload_n 3, 1, (0, [], .null)), some (.bipush 60, 2, (0, [], .int (60))), none, some (.if_icmp .le 6, 3, (28, [], .null)), none, none, some (.ldc 70, 2, (0, [], .int (-1000001))), none, some (.ireturn, 1, (0, [], .null)), some (.iload_n 3, 1, (0, [], .null)), some (.ifCond .ge 9, 3, (38, [], .null)), none, none, some (.aload_n 0, 1, (0, [], .null)), some (.iconst 4, 1, (0, [], .int (4))), some (.invokevirtual 71, 3, (1, [(11, 113)], .ref 82)), none, none, some (.ireturn, 1, (0, [], .null)), some (.aload_n 0, 1, (0, [], .null)), some (.getfield 7, 3, (0, [(11, 0)], .null)), none, none, some (.iload_n 1, 1, (0, [], .null)), some (.iload_n 2, 1, (0, [], .null)), some (.iconst 1, 1, (0, [], .int (1))), some (.iadd, 1, (0, [], .null)), some (.iastore, 1, (0, [], .null)), some (.aload_n 0, 1, (0, [], .null)), some (.getfield 13, 3, (1, [(11, 0)], .null)), none, none, some (.iload_n 1, 1, (0, [], .null)), some (.iload_n 3, 1, (0, [], .null)), some (.iastore, 1, (0, [], .null)), some (.iconst 0, 1, (0, [], .int (0))), some (.istore 4, 2, (0, [], .null)), none, some (.iload 4, 2, (0, [], .null)), none, some (.iload_n 3, 1, (0, [], .null)), some (.if_icmp .ge 22, 3, (82, [], .null)), none, none, some (.aload_n 0, 1, (0, [], .null)), some (.getfield 16, 3, (2, [(11, 0)], .null)), none, none, some (.bipush 60, 2, (0, [], .int (60))), none, some (.iload_n 1, 1, (0, [], .null)), some (.imul, 1, (0, [], .null)), some (.iload 4, 2, (0, [], .null)), none, some (.iadd, 1, (0, [], .null)), some (.iconst 0, 1, (0, [], .int (0))), some (.iastore, 1, (0, [], .null)), some (.iinc 4 1, 3, (0, [], .int (1))), none, none, some (.goto (-22), 3, (57, [], .null)), none, none, some (.aload_n 0, 1, (0, [], .null)), some (.iload_n 3, 1, (0, [], .null)), some (.invokevirtual 75, 3, (1, [(11, 114)], .ref 83)), none, none, some (.ireturn, 1, (0, [], .null))]
/-- LonelyDotsModel.set(III)I -/
def lk_b117 : List (Option lk_E) := [some (.iload_n 1, 1, (0, [], .null)), some (.invokestatic 64, 3, (0, [(0, 115)], .ref 81)), none, none, some (.ifCond .ne 6, 3, (10, [], .null)), none, none, some (.ldc 70, 2, (0, [], .int (-1000001))), none, some (.ireturn, 1, (0, [], .null)), some (.aload_n 0, 1, (0, [], .null)), some (.getfield 7, 3, (0, [(11, 0)], .null)), none, none, some (.iload_n 1, 1, (0, [], .null)), some (.iaload, 1, (0, [], .null)), some (.ifCond .ne 9, 3, (25, [], .null)), none, none, some (.aload_n 0, 1, (0, [], .null)), some (.iconst 1, 1, (0, [], .int (1))), some (.invokevirtual 71, 3, (1, [(11, 113)], .ref 82)), none, none, some (.ireturn, 1, (0, [], .null)), some (.iload_n 2, 1, (0, [], .null)), some (.i2l, 1, (0, [], .null)), some (.lconst 0, 1, (0, [], .long 0)), some (.aload_n 0, 1, (0, [], .null)), some (.getfield 13, 3, (1, [(11, 0)], .null)), none, none, some (.iload_n 1, 1, (0, [], .null)), some (.iaload, 1, (0, [], .null)), some (.iconst 1, 1, (0, [], .int (1))), some (.isub, 1, (0, [], .null)), some (.i2l, 1, (0, [], .null)), some (.invokestatic 60, 3, (0, [(0, 112)], .ref 80)), none, none, some (.ifCond .ne 9, 3, (49, [], .null)), none, none, some (.aload_n 0, 1, (0, [], .null)), some (.iconst 2, 1, (0, [], .int (2))), some (.invokevirtual 71, 3, (1, [(11, 113)], .ref 82)), none, none, some (.ireturn, 1, (0, [], .null)), some (.aload_n 0, 1, (0, [], .null)), some (.getfield 7, 3, (0, [(11, 0)], .null)), none, none, some (.iload_n 1, 1, (0, [], .null)), some (.iaload, 1, (0, [], .null)), some (.iconst 1, 1, (0, [], .int (1))), some (.if_icmp .ne 8, 3, (64, [], .null)), none, none, some (.iload_n 3, 1, (0, [], .null)), some (.i2b, 1, (0, [], .null)), some (.goto 19, 3, (80, [], .null)), none, none, some (.aload_n 0, 1, (0, [], .null)), some (.getfield 7, 3, (0, [(11, 0)], .null)), none, none, some (.iload_n 1, 1, (0, [], .null)), some (.iaload, 1, (0, [], .null)), some (.iconst 2, 1, (0, [], .int (2))), some (.if_icmp .ne 8, 3, (79, [], .null)), none, none, some (.iload_n 3, 1, (0, [], .null)), some (.i2s, 1, (0, [], .null)), some (.goto 4, 3, (80, [], .null)), none, none, some (.iload_n 3, 1, (0, [], .null)), some (.istore 4, 2, (0, [], .null)), none, some (.aload_n 0, 1, (0, [], .null)), some (.getfield 16, 3, (2, [(11, 0)], .null)), none, none, some (.bipush 60, 2, (0, [], .int (60))), none, some (.iload_n 1, 1, (0, [], .null)), some (.imul, 1, (0, [], .null)), some (.iload_n 2, 1, (0, [], .null)), some (.iadd, 1, (0, [], .null)), some (.iload 4, 2, (0, [], .null)), none, some (.iastore, 1, (0, [], .null)), some (.aload_n 0, 1, (0, [], .null)), some (.iload 4, 2, (0, [], .null)), none, some (.invokevirtual 75, 3, (1, [(11, 114)], .ref 83)), none, none, some (.ireturn, 1, (0, [], .null))]
/-- LonelyDotsModel.copy(IIIII)I -/
def lk_b118 : List (Option lk_E) := [some (.iload_n 1, 1, (0, [], .null)), some (.invokestatic 64, 3, (0, [(0, 115)], .ref 81)), none, none, some (.ifCond .eq 10, 3, (14, [], .null)), none, none, some (.iload_n 3, 1, (0, [], .null)), some (.invokestatic 64, 3, (0, [(0, 115)], .ref 81)), none, none, some (.ifCond .ne 6, 3, (17, [], .null)), none, none, some (.ldc 70, 2, (0, [], .int (-1000001))), none, some (.ireturn, 1, (0, [], .null)), some (.aload_n 0, 1, (0, [], .null)), some (.getfield 7, 3, (0, [(11, 0)], .null)), none, none, some (.iload_n 1, 1, (0, [], .null)), some (.iaload, 1, (0, [], .null)), some (.ifCond .eq 12, 3, (35, [], .null)), none, none, some (.aload_n 0, 1, (0, [], .null)), some (.getfield 7, 3, (0, [(11, 0)], .null)), none, none, some (.iload_n 3, 1, (0, [], .null)), some (.iaload, 1, (0, [], .null)), some (.ifCond .ne 9, 3, (41, [], .null)), none, none, some (.aload_n 0, 1, (0, [], .null)), some (.iconst 1, 1, (0, [], .int (1))), some (.invokevirtual 71, 3, (1, [(11, 113)], .ref 82)), none, none, some (.ireturn, 1, (0, [], .null)), some (.aload_n 0, 1, (0, [], .null)), some (.getfield 7, 3, (0, [(11, 0)], .null)), none, none, some (.iload_n 1, 1, (0, [], .null)), some (.iaload, 1, (0, [], .null)), some (.aload_n 0, 1, (0, [], .null)), some (.getfield 7, 3, (0, [(11, 0)], .null)), none, none, some (.iload_n 3, 1, (0, [], .null)), some (.iaload, 1, (0, [], .null)), some (.if_icmp .eq 9, 3, (62, [], .null)), none, none, some (.aload_n 0, 1, (0, [], .null)), some (.iconst 5, 1, (0, [], .int (5))), some (.invokevirtual 71, 3, (1, [(11, 113)], .ref 82)), none, none, some (.ireturn, 1, (0, [], .null)), some (.iload_n 2, 1, (0, [], .null)), some (.ifCond .lt 48, 3, (111, [], .null)), none, none, some (.iload 4, 2, (0, [], .null)), none, some (.ifCond .lt 43, 3, (111, [], .null)), none, none, some (.iload 5, 2, (0, [], .null)), none, some (.ifCond .lt 38, 3, (111, [], .null)), none, none, some (.iload_n 2, 1, (0, [], .null)), some (.i2l, 1, (0, [], .null)), some (.iload 5, 2, (0, [], .null)), none, some (.i2l, 1, (0, [], .null)), some (.ladd, 1, (0, [], .null)), some (.aload_n 0, 1, (0, [], .null)), some (.getfield 13, 3, (1, [(11, 0)], .null)), none, none, some (.iload_n 1, 1, (0, [], .null)), some (.iaload, 1, (0, [], .null)), some (.i2l, 1, (0, [], .null)), some (.lcmp, 1, (0, [], .null)), some (.ifCond .gt 21, 3, (111, [], .null)), none, none, some (.iload 4, 2, (0, [], .null)), none, some (.i2l, 1, (0, [], .null)), some (.iload 5, 2, (0, [], .null)), none, some (.i2l, 1, (0, [], .null)), some (.ladd, 1, (0, [], .null)), some (.aload_n 0, 1, (0, [], .null)), some (.getfield 13, 3, (1, [(11, 0)], .null)), none, none, some (.iload_n 3, 1, (0, [], .null)), some (.iaload, 1, (0, [], .null)), some (.i2l, 1, (0, [], .null)), some (.lcmp, 1, (0, [], .null)), some (.ifCond .le 9, 3, (117, [], .null)), none, none, some (.aload_n 0, 1, (0, [], .null)), some (.iconst 2, 1, (0, [], .int (2))), some (.invokevirtual 71, 3, (1, [(11, 113)], .ref 82)), none, none, some (.ireturn, 1, (0, [], .null)), some (.iconst 0, 1, (0, [], .int (0))), some (.istore 6, 2, (0, [], .null)), none, some (.iload 6, 2, (0, [], .null)), none, some (.iload 5, 2, (0, [], .null)), none, some (.if_icmp .ge 30, 3, (154, [], .null)), none, none, some (.aload_n 0, 1, (0, [], .null)), some (.getfield 19, 3, (3, [(11, 0)], .null)), none, none, some (.iload 6, 2, (0, [], .null)), none, some (.aload_n 0, 1, (0, [], .null)), some (.getfield 16, 3, (2, [(11, 0)], .null)), none, none, some (.bipush 60, 2, (0, [], .int (60))), none, some (.iload_n 1, 1, (0, [], .null)), some (.imul, 1, (0, [], .null)), some (.iload_n 2, 1, (0, [], .null)), some (.iadd, 1, (0, [], .null)), some (.iload 6, 2, (0, [], .null)), none, some (.iadd, 1, (0, [], .null)), some (.iaload, 1, (0, [], .null)), some (.iastore, 1, (0, [], .null)), some (.iinc 6 1, 3, (0, [], .int (1))), none, none, some (.goto (-31), 3, (120, [], .null)), none, none, some (.iconst 0, 1, (0, [], .int (0))), some (.istore 6, 2, (0, [], .null)), none, some (.iload 6, 2, (0, [], .null)), none, some (.iload 5, 2, (0, [], .null)), none, some (.if_icmp .ge 31, 3, (192, [], .null)), none, none, some (.aload_n 0, 1, (0, [], .null)), some (.getfield 16, 3, (2, [(11, 0)], .null)), none, none, some (.bipush 60, 2, (0, [], .int (60))), none, some (.iload_n 3, 1, (0, [], .null)), some (.imul, 1, (0, [], .null)), some (.iload 4, 2, (0, [], .null)), none, some (.iadd, 1, (0, [], .null)), some (.iload 6, 2, (0, [], .null)), none, some (.iadd, 1, (0, [], .null)), some (.aload_n 0, 1, (0, [], .null)), some (.getfield 19, 3, (3, [(11, 0)], .null)), none, none, some (.iload 6, 2, (0, [], .null)), none, some (.iaload, 1, (0, [], .null)), some (.iastore, 1, (0, [], .null)), some (.iinc 6 1, 3, (0, [], .int (1))), none, none, some (.goto (-32), 3, (157, [], .null)), none, none, some (.aload_n 0, 1, (0, [], .null)), some (.iload 5, 2, (0, [], .null)), none, some (.invokevirtual 75, 3, (1, [(11, 114)], .ref 83)), none, none, some (.ireturn, 1, (0, [], .null))]
/-- LonelyDotsModel.drop(I)I -/
def lk_b119 : List (Option lk_E) := [some (.iload_n 1, 1, (0, [], .null)), some (.invokestatic 64, 3, (0, [(0, 115)], .ref 81)), none, none, some (.ifCond .ne 6, 3, (10, [], .null)), none, none, some (.ldc 70, 2, (0, [], .int (-1000001))), none, some (.ireturn, 1, (0, [], .null)), some (.aload_n 0, 1, (0, [], .null)), some (.getfield 7, 3, (0, [(11, 0)], .null)), none, none, some (.iload_n 1, 1, (0, [], .null)), some (.iaload, 1, (0, [], .null)), some (.ifCond .ne 9, 3, (25, [], .null)), none, none, some (.aload_n 0, 1, (0, [], .null)), some (.iconst 1, 1, (0, [], .int (1))), some (.invokevirtual 71, 3, (1, [(11, 113)], .ref 82)), none, none, some (.ireturn, 1, (0, [], .null)), some (.aload_n 0, 1, (0, [], .null)), some (.getfield 7, 3, (0, [(11, 0)], .null)), none, none, some (.iload_n 1, 1, (0, [], .null)), some (.iconst 0, 1, (0, [], .int (0))), some (.iastore, 1, (0, [], .null)), some (.aload_n 0, 1, (0, [], .null)), some (.aload_n 0, 1, (0, [], .null)), some (.getfield 13, 3, (1, [(11, 0)], .null)), none, none, some (.iload_n 1, 1, (0, [], .null)), some (.iaload, 1, (0, [], .null)), some (.invokevirtual 75, 3, (1, [(11, 114)], .ref 83)), none, none, some (.ireturn, 1, (0, [], .null))]
/-- LonelyDotsModel.isPlace(I)Z -/
def lk_b120 : List (Option lk_E) := [some (.iload_n 0, 1, (0, [], .null)), some (.i2l, 1, (0, [], .null)), some (.lconst 0, 1, (0, [], .long 0)), some (.ldc2_w 78, 3, (0, [], .long (9))), none, none, some (.invokestatic 60, 3, (0, [(0, 112)], .ref 80)), none, none, some (.ireturn, 1, (0, [], .null))]
/-- LonelyDotsModel.isOf(II)Z -/
def lk_b121 : List (Option lk_E) := [some (.iload_n 0, 1, (0, [], .null)), some (.iload_n 1, 1, (0, [], .null)), some (.if_icmp .eq 37, 3, (39, [], .null)), none, none, some (.iload_n 1, 1, (0, [], .null)), some (.ifCond .eq 33, 3, (39, [], .null)), none, none, some (.iload_n 1, 1, (0, [], .null)), some (.iconst 1, 1, (0, [], .int (1))), some (.if_icmp .ne 8, 3, (19, [], .null)), none, none, some (.iload_n 0, 1, (0, [], .null)), some (.iconst 2, 1, (0, [], .int (2))), some (.if_icmp .eq 23, 3, (39, [], .null)), none, none, some (.iload_n 1, 1, (0, [], .null)), some (.iconst 3, 1, (0, [], .int (3))), some (.if_icmp .ne 8, 3, (29, [], .null)), none, none, some (.iload_n 0, 1, (0, [], .null)), some (.iconst 3, 1, (0, [], .int (3))), some (.if_icmp .gt 13, 3, (39, [], .null)), none, none, some (.iload_n 1, 1, (0, [], .null)), some (.iconst 4, 1, (0, [], .int (4))), some (.if_icmp .ne 12, 3, (43, [], .null)), none, none, some (.iload_n 0, 1, (0, [], .null)), some (.iconst 5, 1, (0, [], .int (5))), some (.if_icmp .ne 7, 3, (43, [], .null)), none, none, some (.iconst 1, 1, (0, [], .int (1))), some (.goto 4, 3, (44, [], .null)), none, none, some (.iconst 0, 1, (0, [], .int (0))), some (.ireturn, 1, (0, [], .null))]
/-- LonelyDotsModel.at0(II)I -/
def lk_b122 : List (Option lk_E) := [some (.aload_n 0, 1, (0, [], .null)), some (.getfield 28, 3, (6, [(11, 0)], .null)), none, none, some (.bipush 16, 2, (0, [], .int (16))), none, some (.iload_n 1, 1, (0, [], .null)), some (.imul, 1, (0, [], .null)), some (.iload_n 2, 1, (0, [], .null)), some (.iadd, 1, (0, [], .null)), some (.iaload, 1, (0, [], .null)), some (.ireturn, 1, (0, [], .null))]
/-- LonelyDotsModel.areAlike(IZIIII)Z -/
def lk_b123 : List (Option lk_E) := [some (.iload_n 2, 1, (0, [], .null)), some (.ifCond .eq 15, 3, (16, [], .null)), none, none, some (.iload 4, 2, (0, [], .null)), none, some (.iload_n 3, 1, (0, [], .null)), some (.isub, 1, (0, [], .null)), some (.iload 6, 2, (0, [], .null)), none, some (.iload 5, 2, (0, [], .null)), none, some (.isub, 1, (0, [], .null)), some (.if_icmp .ne 39, 3, (52, [], .null)), none, none, some (.aload_n 0, 1, (0, [], .null)), some (.iload_n 1, 1, (0, [], .null)), some (.iload 4, 2, (0, [], .null)), none, some (.invokevirtual 80, 3, (1, [(11, 122)], .ref 84)), none, none, some (.aload_n 0, 1, (0, [], .null)), some (.iload_n 1, 1, (0, [], .null)), some (.iload_n 3, 1, (0, [], .null)), some (.invokevirtual 80, 3, (1, [(11, 122)], .ref 84)), none, none, some (.isub, 1, (0, [], .null)), some (.aload_n 0, 1, (0, [], .null)), some (.iload_n 1, 1, (0, [], .null)), some (.iload 6, 2, (0, [], .null)), none, some (.invokevirtual 80, 3, (1, [(11, 122)], .ref 84)), none, none, some (.aload_n 0, 1, (0, [], .null)), some (.iload_n 1, 1, (0, [], .null)), some (.iload 5, 2, (0, [], .null)), none, some (.invokevirtual 80, 3, (1, [(11, 122)], .ref 84)), none, none, some (.isub, 1, (0, [], .null)), some (.if_icmp .ne 7, 3, (52, [], .null)), none, none, some (.iconst 1, 1, (0, [], .int (1))), some (.goto 4, 3, (53, [], .null)), none, none, some (.iconst 0, 1, (0, [], .int (0))), some (.ireturn, 1, (0, [], .null))]
/-- LonelyDotsModel.findAlike(IZ)Z -/
def lk_b124 : List (Option lk_E) := [some (.aload_n 0, 1, (0, [], .null)), some (.getfield 25, 3, (5, [(11, 0)], .null)), none, none, some (.iload_n 1, 1, (0, [], .null)), some (.iaload, 1, (0, [], .null)), some (.istore_n 3, 1, (0, [], .null)), some (.iconst 0, 1, (0, [], .int (0))), some (.istore 4, 2, (0, [], .null)), none, some (.iload 4, 2, (0, [], .null)), none, some (.iload_n 3, 1, (0, [], .null)), some (.if_icmp .ge 126, 3, (139, [], .null)), none, none, some (.iload 4, 2, (0, [], .null)), none, some (.iconst 1, 1, (0, [], .int (1))), some (.iadd, 1, (0, [], .null)), some (.istore 5, 2, (0, [], .null)), none, some (.iload 5, 2, (0, [], .null)), none, some (.iload_n 3, 1, (0, [], .null)), some (.if_icmp .ge 108, 3, (133, [], .null)), none, none, some (.iload 4, 2, (0, [], .null)), none, some (.istore 6, 2, (0, [], .null)), none, some (.iload 6, 2, (0, [], .null)), none, some (.iload_n 3, 1, (0, [], .null)), some (.if_icmp .ge 92, 3, (127, [], .null)), none, none, some (.iload 6, 2, (0, [], .null)), none, some (.iload 4, 2, (0, [], .null)), none, some (.if_icmp .ne 10, 3, (52, [], .null)), none, none, some (.iload 5, 2, (0, [], .null)), none, some (.iconst 1, 1, (0, [], .int (1))), some (.iadd, 1, (0, [], .null)), some (.goto 7, 3, (56, [], .null)), none, none, some (.iload 6, 2, (0, [], .null)), none, some (.iconst 1, 1, (0, [], .int (1))), some (.iadd, 1, (0, [], .null)), some (.istore 7, 2, (0, [], .null)), none, some (.iload 7, 2, (0, [], .null)), none, some (.iload_n 3, 1, (0, [], .null)), some (.if_icmp .ge 60, 3, (121, [], .null)), none, none, some (.aload_n 0, 1, (0, [], .null)), some (.iload_n 1, 1, (0, [], .null)), some (.iload_n 2, 1, (0, [], .null)), some (.iload 4, 2, (0, [], .null)), none, some (.iload 5, 2, (0, [], .null)), none, some (.iload 6, 2, (0, [], .null)), none, some (.iload 7, 2, (0, [], .null)), none, some (.invokevirtual 84, 3, (1, [(11, 123)], .ref 85)), none, none, some (.ifCond .eq 37, 3, (115, [], .null)), none, none, some (.aload_n 0, 1, (0, [], .null)), some (.getfield 34, 3, (10, [(11, 0)], .null)), none, none, some (.iconst 0, 1, (0, [], .int (0))), some (.iload 4, 2, (0, [], .null)), none, some (.iastore, 1, (0, [], .null)), some (.aload_n 0, 1, (0, [], .null)), some (.getfield 34, 3, (10, [(11, 0)], .null)), none, none, some (.iconst 1, 1, (0, [], .int (1))), some (.iload 5, 2, (0, [], .null)), none, some (.iastore, 1, (0, [], .null)), some (.aload_n 0, 1, (0, [], .null)), some (.getfield 34, 3, (10, [(11, 0)], .null)), none, none, some (.iconst 2, 1, (0, [], .int (2))), some (.iload 6, 2, (0, [], .null)), none, some (.iastore, 1, (0, [], .null)), some (.aload_n 0, 1, (0, [], .null)), some (.getfield 34, 3, (10, [(11, 0)], .null)), none, none, some (.iconst 3, 1, (0, [], .int (3))), some (.iload 7, 2, (0, [], .null)), none, some (.iastore, 1, (0, [], .null)), some (.iconst 1, 1, (0, [], .int (1))), some (.ireturn, 1, (0, [], .null)), some (.iinc 7 1, 3, (0, [], .int (1))), none, none, some (.goto (-60), 3, (58, [], .null)), none, none, some (.iinc 6 1, 3, (0, [], .int (1))), none, none, some (.goto (-92), 3, (32, [], .null)), none, none, some (.iinc 5 1, 3, (0, [], .int (1))), none, none, some (.goto (-108), 3, (22, [], .null)), none, none, some (.iinc 4 1, 3, (0, [], .int (1))), none, none, some (.goto (-126), 3, (10, [], .null)), none, none, some (.iconst 0, 1, (0, [], .int (0))), some (.istore 4, 2, (0, [], .null)), none, some (.iload 4, 2, (0, [], .null)), none, some (.iconst 4, 1, (0, [], .int (4))), some (.if_icmp .ge 18, 3, (163, [], .null)), none, none, some (.aload_n 0, 1, (0, [], .null)), some (.getfield 34, 3, (10, [(11, 0)], .null)), none, none, some (.iload 4, 2, (0, [], .null)), none, some (.ldc 88, 2, (0, [], .int (-1000000))), none, some (.iastore, 1, (0, [], .null)), some (.iinc 4 1, 3, (0, [], .int (1))), none, none, some (.goto (-18), 3, (142, [], .null)), none, none, some (.iconst 0, 1, (0, [], .int (0))), some (.ireturn, 1, (0, [], .null))]
/-- LonelyDotsModel.hasAll(I)Z -/
def lk_b125 : List (Option lk_E) := [some (.aload_n 0, 1, (0, [], .null)), some (.getfield 25, 3, (5, [(11, 0)], .null)), none, none, some (.iload_n 1, 1, (0, [], .null)), some (.iaload, 1, (0, [], .null)), some (.istore_n 2, 1, (0, [], .null)), some (.iconst 1, 1, (0, [], .int (1))), some (.istore_n 3, 1, (0, [], .null)), some (.iload_n 3, 1, (0, [], .null)), some (.aload_n 0, 1, (0, [], .null)), some (.iload_n 1, 1, (0, [], .null)), some (.iload_n 2, 1, (0, [], .null)), some (.iconst 1, 1, (0, [], .int (1))), some (.isub, 1, (0, [], .null)), some (.invokevirtual 80, 3, (1, [(11, 122)], .ref 84)), none, none, some (.aload_n 0, 1, (0, [], .null)), some (.iload_n 1, 1, (0, [], .null)), some (.iconst 0, 1, (0, [], .int (0))), some (.invokevirtual 80, 3, (1, [(11, 122)], .ref 84)), none, none, some (.isub, 1, (0, [], .null)), some (.if_icmp .gt 83, 3, (108, [], .null)), none, none, some (.iconst 0, 1, (0, [], .int (0))), some (.istore 4, 2, (0, [], .null)), none, some (.iconst 0, 1, (0, [], .int (0))), some (.istore 5, 2, (0, [], .null)), none, some (.iload 5, 2, (0, [], .null)), none, some (.iload_n 2, 1, (0, [], .null)), some (.if_icmp .ge 58, 3, (95, [], .null)), none, none, some (.iload 5, 2, (0, [], .null)), none, some (.iconst 1, 1, (0, [], .int (1))), some (.iadd, 1, (0, [], .null)), some (.istore 6, 2, (0, [], .null)), none, some (.iload 6, 2, (0, [], .null)), none, some (.iload_n 2, 1, (0, [], .null)), some (.if_icmp .ge 40, 3, (89, [], .null)), none, none, some (.iload 4, 2, (0, [], .null)), none, some (.ifCond .ne 22, 3, (76, [], .null)), none, none, some (.aload_n 0, 1, (0, [], .null)), some (.iload_n 1, 1, (0, [], .null)), some (.iload 6, 2, (0, [], .null)), none, some (.invokevirtual 80, 3, (1, [(11, 122)], .ref 84)), none, none, some (.aload_n 0, 1, (0, [], .null)), some (.iload_n 1, 1, (0, [], .null)), some (.iload 5, 2, (0, [], .null)), none, some (.invokevirtual 80, 3, (1, [(11, 122)], .ref 84)), none, none, some (.isub, 1, (0, [], .null)), some (.iload_n 3, 1, (0, [], .null)), some (.if_icmp .ne 7, 3, (80, [], .null)), none, none, some (.iconst 1, 1, (0, [], .int (1))), some (.goto 4, 3, (81, [], .null)), none, none, some (.iconst 0, 1, (0, [], .int (0))), some (.istore 4, 2, (0, [], .null)), none, some (.iinc 6 1, 3, (0, [], .int (1))), none, none, some (.goto (-40), 3, (46, [], .null)), none, none, some (.iinc 5 1, 3, (0, [], .int (1))), none, none, some (.goto (-58), 3, (34, [], .null)), none, none, some (.iload 4, 2, (0, [], .null)), none, some (.ifCond .ne 5, 3, (102, [], .null)), none, none, some (.iconst 0, 1, (0, [], .int (0))), some (.ireturn, 1, (0, [], .null)), some (.iinc 3 1, 3, (0, [], .int (1))), none, none, some (.goto (-96), 3, (9, [], .null)), none, none, some (.iconst 1, 1, (0, [], .int (1))), some (.ireturn, 1, (0, [], .null))]
/-- LonelyDotsModel.copyThing(II)V -/
def lk_b126 : List (Option lk_E) := [some (.aload_n 0, 1, (0, [], .null)), some (.getfield 22, 3, (4, [(11, 0)], .null)), none, none, some (.iload_n 1, 1, (0, [], .null)), some (.aload_n 0, 1, (0, [], .null)), some (.getfield 22, 3, (4, [(11, 0)], .null)), none, none, some (.iload_n 2, 1, (0, [], .null)), some (.iaload, 1, (0, [], .null)), some (.iastore, 1, (0, [], .null)), some (.aload_n 0, 1, (0, [], .null)), some (.getfield 25, 3, (5, [(11, 0)], .null)), none, none, some (.iload_n 1, 1, (0, [], .null)), some (.aload_n 0, 1, (0, [], .null)), some (.getfield 25, 3, (5, [(11, 0)], .null)), none, none, some (.iload_n 2, 1, (0, [], .null)), some (.iaload, 1, (0, [], .null)), some (.iastore, 1, (0, [], .null)), some (.iconst 0, 1, (0, [], .int (0))), some (.istore_n 3, 1, (0, [], .null)), some (.iload_n 3, 1, (0, [], .null)), some (.bipush 16, 2, (0, [], .int (16))), none, some (.if_icmp .ge 31, 3, (60, [], .null)), none, none, some (.aload_n 0, 1, (0, [], .null)), some (.getfield 28, 3, (6, [(11, 0)], .null)), none, none, some (.bipush 16, 2, (0, [], .int (16))), none, some (.iload_n 1, 1, (0, [], .null)), some (.imul, 1, (0, [], .null)), some (.iload_n 3, 1, (0, [], .null)), some (.iadd, 1, (0, [], .null)), some (.aload_n 0, 1, (0, [], .null)), some (.getfield 28, 3, (6, [(11, 0)], .null)), none, none, some (.bipush 16, 2, (0, [], .int (16))), none, some (.iload_n 2, 1, (0, [], .null)), some (.imul, 1, (0, [], .null)), some (.iload_n 3, 1, (0, [], .null)), some (.iadd, 1, (0, [], .null)), some (.iaload, 1, (0, [], .null)), some (.iastore, 1, (0, [], .null)), some (.iinc 3 1, 3, (0, [], .int (1))), none, none, some (.goto (-31), 3, (26, [], .null)), none, none, some (.return_, 1, (0, [], .null))]
/-- LonelyDotsModel.keep(IZ)I -/
def lk_b127 : List (Option lk_E) := [some (.aload_n 0, 1, (0, [], .null)), some (.bipush 10, 2, (0, [], .int (10))), none, some (.iload_n 2, 1, (0, [], .null)), some (.invokevirtual 89, 3, (1, [(11, 124)], .ref 86)), none, none, some (.istore_n 3, 1, (0, [], .null)), some (.aload_n 0, 1, (0, [], .null)), some (.getfield 22, 3, (4, [(11, 0)], .null)), none, none, some (.bipush 10, 2, (0, [], .int (10))), none, some (.iload_n 2, 1, (0, [], .null)), some (.ifCond .eq 15, 3, (30, [], .null)), none, none, some (.iload_n 3, 1, (0, [], .null)), some (.ifCond .eq 7, 3, (26, [], .null)), none, none, some (.iconst 1, 1, (0, [], .int (1))), some (.goto 29, 3, (52, [], .null)), none, none, some (.iconst 2, 1, (0, [], .int (2))), some (.goto 25, 3, (52, [], .null)), none, none, some (.iload_n 3, 1, (0, [], .null)), some (.ifCond .eq 7, 3, (38, [], .null)), none, none, some (.iconst 3, 1, (0, [], .int (3))), some (.goto 17, 3, (52, [], .null)), none, none, some (.aload_n 0, 1, (0, [], .null)), some (.bipush 10, 2, (0, [], .int (10))), none, some (.invokevirtual 93, 3, (1, [(11, 125)], .ref 87)), none, none, some (.ifCond .eq 7, 3, (51, [], .null)), none, none, some (.iconst 5, 1, (0, [], .int (5))), some (.goto 4, 3, (52, [], .null)), none, none, some (.iconst 4, 1, (0, [], .int (4))), some (.iastore, 1, (0, [], .null)), some (.aload_n 0, 1, (0, [], .null)), some (.iload_n 1, 1, (0, [], .null)), some (.bipush 10, 2, (0, [], .int (10))), none, some (.invokevirtual 96, 3, (1, [(11, 126)], .ref 88)), none, none, some (.aload_n 0, 1, (0, [], .null)), some (.aload_n 0, 1, (0, [], .null)), some (.getfield 22, 3, (4, [(11, 0)], .null)), none, none, some (.iload_n 1, 1, (0, [], .null)), some (.iaload, 1, (0, [], .null)), some (.invokevirtual 75, 3, (1, [(11, 114)], .ref 83)), none, none, some (.ireturn, 1, (0, [], .null))]
/-- LonelyDotsModel.make(II)V -/
def lk_b128 : List (Option lk_E) := [some (.aload_n 0, 1, (0, [], .null)), some (.getfield 28, 3, (6, [(11, 0)], .null)), none, none, some (.sipush 160, 3, (0, [], .int (160))), none, none, some (.iload_n 1, 1, (0, [], .null)), some (.iadd, 1, (0, [], .null)), some (.iload_n 2, 1, (0, [], .null)), some (.iastore, 1, (0, [], .null)), some (.return_, 1, (0, [], .null))]
/-- LonelyDotsModel.order(IIII)I -/
def lk_b129 : List (Option lk_E) := [some (.iload_n 1, 1, (0, [], .null)), some (.invokestatic 100, 3, (0, [(0, 120)], .ref 89)), none, none, some (.ifCond .eq 23, 3, (27, [], .null)), none, none, some (.iload_n 2, 1, (0, [], .null)), some (.invokestatic 64, 3, (0, [(0, 115)], .ref 81)), none, none, some (.ifCond .eq 16, 3, (27, [], .null)), none, none, some (.iload 4, 2, (0, [], .null)), none, some (.i2l, 1, (0, [], .null)), some (.lconst 1, 1, (0, [], .long 1)), some (.ldc2_w 103, 3, (0, [], .long (16))), none, none, some (.invokestatic 60, 3, (0, [(0, 112)], .ref 80)), none, none, some (.ifCond .ne 6, 3, (30, [], .null)), none, none, some (.ldc 70, 2, (0, [], .int (-1000001))), none, some (.ireturn, 1, (0, [], .null)), some (.aload_n 0, 1, (0, [], .null)), some (.getfield 7, 3, (0, [(11, 0)], .null)), none, none, some (.iload_n 2, 1, (0, [], .null)), some (.iaload, 1, (0, [], .null)), some (.ifCond .ne 9, 3, (45, [], .null)), none, none, some (.aload_n 0, 1, (0, [], .null)), some (.iconst 1, 1, (0, [], .int (1))), some (.invokevirtual 71, 3, (1, [(11, 113)], .ref 82)), none, none, some (.ireturn, 1, (0, [], .null)), some (.iload_n 3, 1, (0, [], .null)), some (.ifCond .lt 20, 3, (66, [], .null)), none, none, some (.iload_n 3, 1, (0, [], .null)), some (.i2l, 1, (0, [], .null)), some (.iload 4, 2, (0, [], .null)), none, some (.i2l, 1, (0, [], .null)), some (.ladd, 1, (0, [], .null)), some (.aload_n 0, 1, (0, [], .null)), some (.getfield 13, 3, (1, [(11, 0)], .null)), none, none, some (.iload_n 2, 1, (0, [], .null)), some (.iaload, 1, (0, [], .null)), some (.i2l, 1, (0, [], .null)), some (.lcmp, 1, (0, [], .null)), some (.ifCond .le 9, 3, (72, [], .null)), none, none, some (.aload_n 0, 1, (0, [], .null)), some (.iconst 2, 1, (0, [], .int (2))), some (.invokevirtual 71, 3, (1, [(11, 113)], .ref 82)), none, none, some (.ireturn, 1, (0, [], .null)), some (.iconst 0, 1, (0, [], .int (0))), some (.istore 5, 2, (0, [], .null)), none, some (.iload 5, 2, (0, [], .null)), none, some (.bipush 16, 2, (0, [], .int (16))), none, some (.if_icmp .ge 17, 3, (96, [], .null)), none, none, some (.aload_n 0, 1, (0, [], .null)), some (.getfield 37, 3, (11, [(11, 0)], .null)), none, none, some (.iload 5, 2, (0, [], .null)), none, some (.iconst 0, 1, (0, [], .int (0))), some (.bastore, 1, (0, [], .null)), some (.iinc 5 1, 3, (0, [], .int (1))), none, none, some (.goto (-18), 3, (75, [], .null)), none, none, some (.iconst 0, 1, (0, [], .int (0))), some (.istore 5, 2, (0, [], .null)), none, some (.iload 5, 2, (0, [], .null)), none, some (.iload 4, 2, (0, [], .null)), none, some (.if_icmp .ge 69, 3, (172, [], .null)), none, none, some (.aload_n 0, 1, (0, [], .null)), some (.getfield 16, 3, (2, [(11, 0)], .null)), none, none, some (.bipush 60, 2, (0, [], .int (60))), none, some (.iload_n 2, 1, (0, [], .null)), some (.imul, 1, (0, [], .null)), some (.iload_n 3, 1, (0, [], .null)), some (.iadd, 1, (0, [], .null)), some (.iload 5, 2, (0, [], .null)), none, some (.iadd, 1, (0, [], .null)), some (.iaload, 1, (0, [], .null)), some (.istore 6, 2, (0, [], .null)), none, some (.iload 6, 2, (0, [], .null)), none, some (.i2l, 1, (0, [], .null)), some (.lconst 0, 1, (0, [], .long 0)), some (.iload 4, 2, (0, [], .null)), none, some (.iconst 1, 1, (0, [], .int (1))), some (.isub, 1, (0, [], .null)), some (.i2l, 1, (0, [], .null)), some (.invokestatic 60, 3, (0, [(0, 112)], .ref 80)), none, none, some (.ifCond .eq 13, 3, (147, [], .null)), none, none, some (.aload_n 0, 1, (0, [], .null)), some (.getfield 37, 3, (11, [(11, 0)], .null)), none, none, some (.iload 6, 2, (0, [], .null)), none, some (.baload, 1, (0, [], .null)), some (.ifCond .eq 6, 3, (150, [], .null)), none, none, some (.ldc 70, 2, (0, [], .int (-1000001))), none, some (.ireturn, 1, (0, [], .null)), some (.aload_n 0, 1, (0, [], .null)), some (.getfield 37, 3, (11, [(11, 0)], .null)), none, none, some (.iload 6, 2, (0, [], .null)), none, some (.iconst 1, 1, (0, [], .int (1))), some (.bastore, 1, (0, [], .null)), some (.aload_n 0, 1, (0, [], .null)), some (.iload 5, 2, (0, [], .null)), none, some (.iload 6, 2, (0, [], .null)), none, some (.invokevirtual 105, 3, (1, [(11, 128)], .ref 90)), none, none, some (.iinc 5 1, 3, (0, [], .int (1))), none, none, some (.goto (-70), 3, (99, [], .null)), none, none, some (.aload_n 0, 1, (0, [], .null)), some (.getfield 25, 3, (5, [(11, 0)], .null)), none, none, some (.bipush 10, 2, (0, [], .int (10))), none, some (.iload 4, 2, (0, [], .null)), none, some (.iastore, 1, (0, [], .null)), some (.aload_n 0, 1, (0, [], .null)), some (.iload_n 1, 1, (0, [], .null)), some (.iconst 1, 1, (0, [], .int (1))), some (.invokevirtual 108, 3, (1, [(11, 127)], .ref 91)), none, none, some (.ireturn, 1, (0, [], .null))]
/-- LonelyDotsModel.marks(IIII)I -/
def lk_b130 : List (Option lk_E) := [some (.iload_n 1, 1, (0, [], .null)), some (.invokestatic 100, 3, (0, [(0, 120)], .ref 89)), none, none, some (.ifCond .eq 23, 3, (27, [], .null)), none, none, some (.iload_n 2, 1, (0, [], .null)), some (.invokestatic 64, 3, (0, [(0, 115)], .ref 81)), none, none, some (.ifCond .eq 16, 3, (27, [], .null)), none, none, some (.iload 4, 2, (0, [], .null)), none, some (.i2l, 1, (0, [], .null)), some (.lconst 1, 1, (0, [], .long 1)), some (.ldc2_w 112, 3, (0, [], .long (12))), none, none, some (.invokestatic 60, 3, (0, [(0, 112)], .ref 80)), none, none, some (.ifCond .ne 6, 3, (30, [], .null)), none, none, some (.ldc 70, 2, (0, [], .int (-1000001))), none, some (.ireturn, 1, (0, [], .null)), some (.aload_n 0, 1, (0, [], .null)), some (.getfield 7, 3, (0, [(11, 0)], .null)), none, none, some (.iload_n 2, 1, (0, [], .null)), some (.iaload, 1, (0, [], .null)), some (.ifCond .ne 9, 3, (45, [], .null)), none, none, some (.aload_n 0, 1, (0, [], .null)), some (.iconst 1, 1, (0, [], .int (1))), some (.invokevirtual 71, 3, (1, [(11, 113)], .ref 82)), none, none, some (.ireturn, 1, (0, [], .null)), some (.iload_n 3, 1, (0, [], .null)), some (.ifCond .lt 20, 3, (66, [], .null)), none, none, some (.iload_n 3, 1, (0, [], .null)), some (.i2l, 1, (0, [], .null)), some (.iload 4, 2, (0, [], .null)), none, some (.i2l, 1, (0, [], .null)), some (.ladd, 1, (0, [], .null)), some (.aload_n 0, 1, (0, [], .null)), some (.getfield 13, 3, (1, [(11, 0)], .null)), none, none, some (.iload_n 2, 1, (0, [], .null)), some (.iaload, 1, (0, [], .null)), some (.i2l, 1, (0, [], .null)), some (.lcmp, 1, (0, [], .null)), some (.ifCond .le 9, 3, (72, [], .null)), none, none, some (.aload_n 0, 1, (0, [], .null)), some (.iconst 2, 1, (0, [], .int (2))), some (.invokevirtual 71, 3, (1, [(11, 113)], .ref 82)), none, none, some (.ireturn, 1, (0, [], .null)), some (.iconst 0, 1, (0, [], .int (0))), some (.istore 5, 2, (0, [], .null)), none, some (.iload 5, 2, (0, [], .null)), none, some (.iload 4, 2, (0, [], .null)), none, some (.if_icmp .ge 75, 3, (154, [], .null)), none, none, some (.aload_n 0, 1, (0, [], .null)), some (.getfield 16, 3, (2, [(11, 0)], .null)), none, none, some (.bipush 60, 2, (0, [], .int (60))), none, some (.iload_n 2, 1, (0, [], .null)), some (.imul, 1, (0, [], .null)), some (.iload_n 3, 1, (0, [], .null)), some (.iadd, 1, (0, [], .null)), some (.iload 5, 2, (0, [], .null)), none, some (.iadd, 1, (0, [], .null)), some (.iaload, 1, (0, [], .null)), some (.istore 6, 2, (0, [], .null)), none, some (.iload 6, 2, (0, [], .null)), none, some (.i2l, 1, (0, [], .null)), some (.lconst 0, 1, (0, [], .long 0)), some (.ldc2_w 114, 3, (0, [], .long (200))), none, none, some (.invokestatic 60, 3, (0, [(0, 112)], .ref 80)), none, none, some (.ifCond .eq 29, 3, (137, [], .null)), none, none, some (.iload 5, 2, (0, [], .null)), none, some (.ifCond .le 27, 3, (140, [], .null)), none, none, some (.iload 6, 2, (0, [], .null)), none, some (.aload_n 0, 1, (0, [], .null)), some (.getfield 16, 3, (2, [(11, 0)], .null)), none, none, some (.bipush 60, 2, (0, [], .int (60))), none, some (.iload_n 2, 1, (0, [], .null)), some (.imul, 1, (0, [], .null)), some (.iload_n 3, 1, (0, [], .null)), some (.iadd, 1, (0, [], .null)), some (.iload 5, 2, (0, [], .null)), none, some (.iadd, 1, (0, [], .null)), some (.iconst 1, 1, (0, [], .int (1))), some (.isub, 1, (0, [], .null)), some (.iaload, 1, (0, [], .null)), some (.if_icmp .gt 6, 3, (140, [], .null)), none, none, some (.ldc 70, 2, (0, [], .int (-1000001))), none, some (.ireturn, 1, (0, [], .null)), some (.aload_n 0, 1, (0, [], .null)), some (.iload 5, 2, (0, [], .null)), none, some (.iload 6, 2, (0, [], .null)), none, some (.invokevirtual 105, 3, (1, [(11, 128)], .ref 90)), none, none, some (.iinc 5 1, 3, (0, [], .int (1))), none, none, some (.goto (-76), 3, (75, [], .null)), none, none, some (.aload_n 0, 1, (0, [], .null)), some (.getfield 25, 3, (5, [(11, 0)], .null)), none, none, some (.bipush 10, 2, (0, [], .int (10))), none, some (.iload 4, 2, (0, [], .null)), none, some (.iastore, 1, (0, [], .null)), some (.aload_n 0, 1, (0, [], .null)), some (.iload_n 1, 1, (0, [], .null)), some (.iconst 0, 1, (0, [], .int (0))), some (.invokevirtual 108, 3, (1, [(11, 127)], .ref 91)), none, none, some (.ireturn, 1, (0, [], .null))]
/-- LonelyDotsModel.isPrime(I)Z -/
def lk_b131 : List (Option lk_E) := [some (.iload_n 0, 1, (0, [], .null)), some (.iconst 3, 1, (0, [], .int (3))), some (.if_icmp .eq 32, 3, (34, [], .null)), none, none, some (.iload_n 0, 1, (0, [], .null)), some (.iconst 5, 1, (0, [], .int (5))), some (.if_icmp .eq 27, 3, (34, [], .null)), none, none, some (.iload_n 0, 1, (0, [], .null)), some (.bipush 7, 2, (0, [], .int (7))), none, some (.if_icmp .eq 21, 3, (34, [], .null)), none, none, some (.iload_n 0, 1, (0, [], .null)), some (.bipush 11, 2, (0, [], .int (11))), none, some (.if_icmp .eq 15, 3, (34, [], .null)), none, none, some (.iload_n 0, 1, (0, [], .null)), some (.bipush 13, 2, (0, [], .int (13))), none, some (.if_icmp .eq 9, 3, (34, [], .null)), none, none, some (.iload_n 0, 1, (0, [], .null)), some (.bipush 17, 2, (0, [], .int (17))), none, some (.if_icmp .ne 7, 3, (38, [], .null)), none, none, some (.iconst 1, 1, (0, [], .int (1))), some (.goto 4, 3, (39, [], .null)), none, none, some (.iconst 0, 1, (0, [], .int (0))), some (.ireturn, 1, (0, [], .null))]
/-- LonelyDotsModel.isRoot(II)Z -/
def lk_b132 : List (Option lk_E) := [some (.iload_n 1, 1, (0, [], .null)), some (.i2l, 1, (0, [], .null)), some (.lconst 1, 1, (0, [], .long 1)), some (.iload_n 0, 1, (0, [], .null)), some (.iconst 1, 1, (0, [], .int (1))), some (.isub, 1, (0, [], .null)), some (.i2l, 1, (0, [], .null)), some (.invokestatic 60, 3, (0, [(0, 112)], .ref 80)), none, none, some (.ifCond .ne 5, 3, (15, [], .null)), none, none, some (.iconst 0, 1, (0, [], .int (0))), some (.ireturn, 1, (0, [], .null)), some (.iload_n 1, 1, (0, [], .null)), some (.istore_n 2, 1, (0, [], .null)), some (.iconst 1, 1, (0, [], .int (1))), some (.istore_n 3, 1, (0, [], .null)), some (.iload_n 2, 1, (0, [], .null)), some (.iconst 1, 1, (0, [], .int (1))), some (.if_icmp .eq 15, 3, (36, [], .null)), none, none, some (.iload_n 2, 1, (0, [], .null)), some (.iload_n 1, 1, (0, [], .null)), some (.imul, 1, (0, [], .null)), some (.iload_n 0, 1, (0, [], .null)), some (.irem, 1, (0, [], .null)), some (.istore_n 2, 1, (0, [], .null)), some (.iinc 3 1, 3, (0, [], .int (1))), none, none, some (.goto (-14), 3, (19, [], .null)), none, none, some (.iload_n 3, 1, (0, [], .null)), some (.iload_n 0, 1, (0, [], .null)), some (.iconst 1, 1, (0, [], .int (1))), some (.isub, 1, (0, [], .null)), some (.if_icmp .ne 7, 3, (47, [], .null)), none, none, some (.iconst 1, 1, (0, [], .int (1))), some (.goto 4, 3, (48, [], .null)), none, none, some (.iconst 0, 1, (0, [], .int (0))), some (.ireturn, 1, (0, [], .null))]
/-- LonelyDotsModel.power(III)I -/
def lk_b133 : List (Option lk_E) := [some (.iconst 1, 1, (0, [], .int (1))), some (.istore_n 3, 1, (0, [], .null)), some (.iconst 0, 1, (0, [], .int (0))), some (.istore 4, 2, (0, [], .null)), none, some (.iload 4, 2, (0, [], .null)), none, some (.iload_n 2, 1, (0, [], .null)), some (.if_icmp .ge 15, 3, (23, [], .null)), none, none, some (.iload_n 3, 1, (0, [], .null)), some (.iload_n 1, 1, (0, [], .null)), some (.imul, 1, (0, [], .null)), some (.iload_n 0, 1, (0, [], .null)), some (.irem, 1, (0, [], .null)), some (.istore_n 3, 1, (0, [], .null)), some (.iinc 4 1, 3, (0, [], .int (1))), none, none, some (.goto (-15), 3, (5, [], .null)), none, none, some (.iload_n 3, 1, (0, [], .null)), some (.ireturn, 1, (0, [], .null))]
/-- LonelyDotsModel.powers(IIII)I -/
def lk_b134 : List (Option lk_E) := [some (.iload_n 1, 1, (0, [], .null)), some (.invokestatic 100, 3, (0, [(0, 120)], .ref 89)), none, none, some (.ifCond .eq 31, 3, (35, [], .null)), none, none, some (.iload_n 2, 1, (0, [], .null)), some (.invokestatic 116, 3, (0, [(0, 131)], .ref 92)), none, none, some (.ifCond .eq 24, 3, (35, [], .null)), none, none, some (.iload_n 2, 1, (0, [], .null)), some (.iload_n 3, 1, (0, [], .null)), some (.invokestatic 119, 3, (0, [(0, 132)], .ref 93)), none, none, some (.ifCond .eq 16, 3, (35, [], .null)), none, none, some (.iload 4, 2, (0, [], .null)), none, some (.i2l, 1, (0, [], .null)), some (.lconst 0, 1, (0, [], .long 0)), some (.ldc2_w 123, 3, (0, [], .long (15))), none, none, some (.invokestatic 60, 3, (0, [(0, 112)], .ref 80)), none, none, some (.ifCond .ne 6, 3, (38, [], .null)), none, none, some (.ldc 70, 2, (0, [], .int (-1000001))), none, some (.ireturn, 1, (0, [], .null)), some (.aload_n 0, 1, (0, [], .null)), some (.getfield 25, 3, (5, [(11, 0)], .null)), none, none, some (.bipush 10, 2, (0, [], .int (10))), none, some (.iload_n 2, 1, (0, [], .null)), some (.iconst 1, 1, (0, [], .int (1))), some (.isub, 1, (0, [], .null)), some (.iastore, 1, (0, [], .null)), some (.iconst 0, 1, (0, [], .int (0))), some (.istore 5, 2, (0, [], .null)), none, some (.iload 5, 2, (0, [], .null)), none, some (.iload_n 2, 1, (0, [], .null)), some (.iconst 1, 1, (0, [], .int (1))), some (.isub, 1, (0, [], .null)), some (.if_icmp .ge 29, 3, (85, [], .null)), none, none, some (.aload_n 0, 1, (0, [], .null)), some (.iload 5, 2, (0, [], .null)), none, some (.iload_n 2, 1, (0, [], .null)), some (.iload_n 3, 1, (0, [], .null)), some (.iload 5, 2, (0, [], .null)), none, some (.iload 4, 2, (0, [], .null)), none, some (.iadd, 1, (0, [], .null)), some (.iconst 1, 1, (0, [], .int (1))), some (.iadd, 1, (0, [], .null)), some (.invokestatic 125, 3, (0, [(0, 133)], .ref 94)), none, none, some (.iconst 1, 1, (0, [], .int (1))), some (.isub, 1, (0, [], .null)), some (.invokevirtual 105, 3, (1, [(11, 128)], .ref 90)), none, none, some (.iinc 5 1, 3, (0, [], .int (1))), none, none, some (.goto (-31), 3, (51, [], .null)), none, none, some (.aload_n 0, 1, (0, [], .null)), some (.iload_n 1, 1, (0, [], .null)), some (.iconst 1, 1, (0, [], .int (1))), some (.invokevirtual 108, 3, (1, [(11, 127)], .ref 91)), none, none, some (.ireturn, 1, (0, [], .null))]
/-- LonelyDotsModel.sums(IIII)I -/
def lk_b135 : List (Option lk_E) := [some (.iload_n 1, 1, (0, [], .null)), some (.invokestatic 100, 3, (0, [(0, 120)], .ref 89)), none, none, some (.ifCond .eq 32, 3, (36, [], .null)), none, none, some (.iload_n 2, 1, (0, [], .null)), some (.invokestatic 116, 3, (0, [(0, 131)], .ref 92)), none, none, some (.ifCond .eq 25, 3, (36, [], .null)), none, none, some (.iload_n 2, 1, (0, [], .null)), some (.iconst 5, 1, (0, [], .int (5))), some (.if_icmp .lt 20, 3, (36, [], .null)), none, none, some (.iload_n 2, 1, (0, [], .null)), some (.iload_n 3, 1, (0, [], .null)), some (.invokestatic 119, 3, (0, [(0, 132)], .ref 93)), none, none, some (.ifCond .eq 12, 3, (36, [], .null)), none, none, some (.iload_n 2, 1, (0, [], .null)), some (.iload 4, 2, (0, [], .null)), none, some (.invokestatic 119, 3, (0, [(0, 132)], .ref 93)), none, none, some (.ifCond .ne 6, 3, (39, [], .null)), none, none, some (.ldc 70, 2, (0, [], .int (-1000001))), none, some (.ireturn, 1, (0, [], .null)), some (.aload_n 0, 1, (0, [], .null)), some (.getfield 25, 3, (5, [(11, 0)], .null)), none, none, some (.bipush 10, 2, (0, [], .int (10))), none, some (.iload_n 2, 1, (0, [], .null)), some (.iconst 2, 1, (0, [], .int (2))), some (.isub, 1, (0, [], .null)), some (.iastore, 1, (0, [], .null)), some (.iconst 1, 1, (0, [], .int (1))), some (.istore 5, 2, (0, [], .null)), none, some (.iload 5, 2, (0, [], .null)), none, some (.iload_n 2, 1, (0, [], .null)), some (.iconst 1, 1, (0, [], .int (1))), some (.isub, 1, (0, [], .null)), some (.if_icmp .ge 60, 3, (117, [], .null)), none, none, some (.iconst 1, 1, (0, [], .int (1))), some (.istore 6, 2, (0, [], .null)), none, some (.iload 6, 2, (0, [], .null)), none, some (.iload_n 2, 1, (0, [], .null)), some (.iconst 1, 1, (0, [], .int (1))), some (.isub, 1, (0, [], .null)), some (.if_icmp .ge 43, 3, (111, [], .null)), none, none, some (.iload_n 2, 1, (0, [], .null)), some (.iload_n 3, 1, (0, [], .null)), some (.iload 5, 2, (0, [], .null)), none, some (.invokestatic 125, 3, (0, [(0, 133)], .ref 94)), none, none, some (.iload_n 2, 1, (0, [], .null)), some (.iload 4, 2, (0, [], .null)), none, some (.iload 6, 2, (0, [], .null)), none, some (.invokestatic 125, 3, (0, [(0, 133)], .ref 94)), none, none, some (.iadd, 1, (0, [], .null)), some (.iload_n 2, 1, (0, [], .null)), some (.irem, 1, (0, [], .null)), some (.iconst 1, 1, (0, [], .int (1))), some (.if_icmp .ne 15, 3, (105, [], .null)), none, none, some (.aload_n 0, 1, (0, [], .null)), some (.iload 5, 2, (0, [], .null)), none, some (.iconst 1, 1, (0, [], .int (1))), some (.isub, 1, (0, [], .null)), some (.iload 6, 2, (0, [], .null)), none, some (.iconst 1, 1, (0, [], .int (1))), some (.isub, 1, (0, [], .null)), some (.invokevirtual 105, 3, (1, [(11, 128)], .ref 90)), none, none, some (.iinc 6 1, 3, (0, [], .int (1))), none, none, some (.goto (-45), 3, (63, [], .null)), none, none, some (.iinc 5 1, 3, (0, [], .int (1))), none, none, some (.goto (-62), 3, (52, [], .null)), none, none, some (.aload_n 0, 1, (0, [], .null)), some (.iload_n 1, 1, (0, [], .null)), some (.iconst 1, 1, (0, [], .int (1))), some (.invokevirtual 108, 3, (1, [(11, 127)], .ref 91)), none, none, some (.ireturn, 1, (0, [], .null))]
/-- LonelyDotsModel.refusal(II)I -/
def lk_b136 : List (Option lk_E) := [some (.aload_n 0, 1, (0, [], .null)), some (.getfield 22, 3, (4, [(11, 0)], .null)), none, none, some (.iload_n 1, 1, (0, [], .null)), some (.iaload, 1, (0, [], .null)), some (.ifCond .ne 9, 3, (15, [], .null)), none, none, some (.aload_n 0, 1, (0, [], .null)), some (.iconst 1, 1, (0, [], .int (1))), some (.invokevirtual 71, 3, (1, [(11, 113)], .ref 82)), none, none, some (.ireturn, 1, (0, [], .null)), some (.aload_n 0, 1, (0, [], .null)), some (.getfield 22, 3, (4, [(11, 0)], .null)), none, none, some (.iload_n 1, 1, (0, [], .null)), some (.iaload, 1, (0, [], .null)), some (.iload_n 2, 1, (0, [], .null)), some (.invokestatic 129, 3, (0, [(0, 121)], .ref 95)), none, none, some (.ifCond .eq 7, 3, (32, [], .null)), none, none, some (.iconst 0, 1, (0, [], .int (0))), some (.goto 8, 3, (37, [], .null)), none, none, some (.aload_n 0, 1, (0, [], .null)), some (.iconst 3, 1, (0, [], .int (3))), some (.invokevirtual 71, 3, (1, [(11, 113)], .ref 82)), none, none, some (.ireturn, 1, (0, [], .null))]
/-- LonelyDotsModel.take(III)I -/
def lk_b137 : List (Option lk_E) := [some (.iload_n 1, 1, (0, [], .null)), some (.invokestatic 100, 3, (0, [(0, 120)], .ref 89)), none, none, some (.ifCond .eq 22, 3, (26, [], .null)), none, none, some (.iload_n 2, 1, (0, [], .null)), some (.invokestatic 100, 3, (0, [(0, 120)], .ref 89)), none, none, some (.ifCond .eq 15, 3, (26, [], .null)), none, none, some (.iload_n 3, 1, (0, [], .null)), some (.i2l, 1, (0, [], .null)), some (.lconst 0, 1, (0, [], .long 0)), some (.ldc2_w 132, 3, (0, [], .long (3))), none, none, some (.invokestatic 60, 3, (0, [(0, 112)], .ref 80)), none, none, some (.ifCond .ne 6, 3, (29, [], .null)), none, none, some (.ldc 70, 2, (0, [], .int (-1000001))), none, some (.ireturn, 1, (0, [], .null)), some (.aload_n 0, 1, (0, [], .null)), some (.iload_n 2, 1, (0, [], .null)), some (.iconst 1, 1, (0, [], .int (1))), some (.invokevirtual 134, 3, (1, [(11, 136)], .ref 96)), none, none, some (.istore 4, 2, (0, [], .null)), none, some (.iload 4, 2, (0, [], .null)), none, some (.ifCond .eq 6, 3, (45, [], .null)), none, none, some (.iload 4, 2, (0, [], .null)), none, some (.ireturn, 1, (0, [], .null)), some (.aload_n 0, 1, (0, [], .null)), some (.getfield 25, 3, (5, [(11, 0)], .null)), none, none, some (.iload_n 2, 1, (0, [], .null)), some (.iaload, 1, (0, [], .null)), some (.istore 5, 2, (0, [], .null)), none, some (.iload_n 3, 1, (0, [], .null)), some (.iconst 2, 1, (0, [], .int (2))), some (.if_icmp .ge 7, 3, (62, [], .null)), none, none, some (.iconst 0, 1, (0, [], .int (0))), some (.goto 7, 3, (66, [], .null)), none, none, some (.iload 5, 2, (0, [], .null)), none, some (.iconst 1, 1, (0, [], .int (1))), some (.isub, 1, (0, [], .null)), some (.istore 6, 2, (0, [], .null)), none, some (.iload_n 3, 1, (0, [], .null)), some (.iconst 2, 1, (0, [], .int (2))), some (.irem, 1, (0, [], .null)), some (.ifCond .ne 7, 3, (78, [], .null)), none, none, some (.iconst 0, 1, (0, [], .int (0))), some (.goto 7, 3, (82, [], .null)), none, none, some (.iload 5, 2, (0, [], .null)), none, some (.iconst 1, 1, (0, [], .int (1))), some (.isub, 1, (0, [], .null)), some (.istore 7, 2, (0, [], .null)), none, some (.iload 5, 2, (0, [], .null)), none, some (.iconst 1, 1, (0, [], .int (1))), some (.if_icmp .eq 15, 3, (102, [], .null)), none, none, some (.aload_n 0, 1, (0, [], .null)), some (.iload_n 2, 1, (0, [], .null)), some (.iload 6, 2, (0, [], .null)), none, some (.invokevirtual 80, 3, (1, [(11, 122)], .ref 84)), none, none, some (.iload 7, 2, (0, [], .null)), none, some (.if_icmp .eq 10, 3, (109, [], .null)), none, none, some (.aload_n 0, 1, (0, [], .null)), some (.ldc 88, 2, (0, [], .int (-1000000))), none, some (.invokevirtual 75, 3, (1, [(11, 114)], .ref 83)), none, none, some (.ireturn, 1, (0, [], .null)), some (.aload_n 0, 1, (0, [], .null)), some (.getfield 25, 3, (5, [(11, 0)], .null)), none, none, some (.bipush 10, 2, (0, [], .int (10))), none, some (.iload 5, 2, (0, [], .null)), none, some (.iconst 1, 1, (0, [], .int (1))), some (.isub, 1, (0, [], .null)), some (.iastore, 1, (0, [], .null)), some (.iconst 0, 1, (0, [], .int (0))), some (.istore 8, 2, (0, [], .null)), none, some (.iload 8, 2, (0, [], .null)), none, some (.iload 5, 2, (0, [], .null)), none, some (.iconst 1, 1, (0, [], .int (1))), some (.isub, 1, (0, [], .null)), some (.if_icmp .ge 46, 3, (175, [], .null)), none, none, some (.aload_n 0, 1, (0, [], .null)), some (.iload 8, 2, (0, [], .null)), none, some (.aload_n 0, 1, (0, [], .null)), some (.iload_n 2, 1, (0, [], .null)), some (.iload_n 3, 1, (0, [], .null)), some (.iconst 2, 1, (0, [], .int (2))), some (.if_icmp .ge 10, 3, (149, [], .null)), none, none, some (.iload 8, 2, (0, [], .null)), none, some (.iconst 1, 1, (0, [], .int (1))), some (.iadd, 1, (0, [], .null)), some (.goto 5, 3, (151, [], .null)), none, none, some (.iload 8, 2, (0, [], .null)), none, some (.invokevirtual 80, 3, (1, [(11, 122)], .ref 84)), none, none, some (.iload_n 3, 1, (0, [], .null)), some (.iconst 2, 1, (0, [], .int (2))), some (.irem, 1, (0, [], .null)), some (.ifCond .ne 7, 3, (164, [], .null)), none, none, some (.iconst 1, 1, (0, [], .int (1))), some (.goto 4, 3, (165, [], .null)), none, none, some (.iconst 0, 1, (0, [], .int (0))), some (.isub, 1, (0, [], .null)), some (.invokevirtual 105, 3, (1, [(11, 128)], .ref 90)), none, none, some (.iinc 8 1, 3, (0, [], .int (1))), none, none, some (.goto (-49), 3, (123, [], .null)), none, none, some (.aload_n 0, 1, (0, [], .null)), some (.iload_n 1, 1, (0, [], .null)), some (.iconst 1, 1, (0, [], .int (1))), some (.invokevirtual 108, 3, (1, [(11, 127)], .ref 91)), none, none, some (.ireturn, 1, (0, [], .null))]
/-- LonelyDotsModel.put(III)I -/
def lk_b138 : List (Option lk_E) := [some (.iload_n 1, 1, (0, [], .null)), some (.invokestatic 100, 3, (0, [(0, 120)], .ref 89)), none, none, some (.ifCond .eq 22, 3, (26, [], .null)), none, none, some (.iload_n 2, 1, (0, [], .null)), some (.invokestatic 100, 3, (0, [(0, 120)], .ref 89)), none, none, some (.ifCond .eq 15, 3, (26, [], .null)), none, none, some (.iload_n 3, 1, (0, [], .null)), some (.i2l, 1, (0, [], .null)), some (.lconst 0, 1, (0, [], .long 0)), some (.ldc2_w 132, 3, (0, [], .long (3))), none, none, some (.invokestatic 60, 3, (0, [(0, 112)], .ref 80)), none, none, some (.ifCond .ne 6, 3, (29, [], .null)), none, none, some (.ldc 70, 2, (0, [], .int (-1000001))), none, some (.ireturn, 1, (0, [], .null)), some (.aload_n 0, 1, (0, [], .null)), some (.iload_n 2, 1, (0, [], .null)), some (.iconst 1, 1, (0, [], .int (1))), some (.invokevirtual 134, 3, (1, [(11, 136)], .ref 96)), none, none, some (.istore 4, 2, (0, [], .null)), none, some (.iload 4, 2, (0, [], .null)), none, some (.ifCond .eq 6, 3, (45, [], .null)), none, none, some (.iload 4, 2, (0, [], .null)), none, some (.ireturn, 1, (0, [], .null)), some (.aload_n 0, 1, (0, [], .null)), some (.getfield 25, 3, (5, [(11, 0)], .null)), none, none, some (.iload_n 2, 1, (0, [], .null)), some (.iaload, 1, (0, [], .null)), some (.istore 5, 2, (0, [], .null)), none, some (.iload 5, 2, (0, [], .null)), none, some (.bipush 16, 2, (0, [], .int (16))), none, some (.if_icmp .ne 6, 3, (63, [], .null)), none, none, some (.ldc 137, 2, (0, [], .int (-1000003))), none, some (.ireturn, 1, (0, [], .null)), some (.aload_n 0, 1, (0, [], .null)), some (.getfield 25, 3, (5, [(11, 0)], .null)), none, none, some (.bipush 10, 2, (0, [], .int (10))), none, some (.iload 5, 2, (0, [], .null)), none, some (.iconst 1, 1, (0, [], .int (1))), some (.iadd, 1, (0, [], .null)), some (.iastore, 1, (0, [], .null)), some (.iconst 0, 1, (0, [], .int (0))), some (.istore 6, 2, (0, [], .null)), none, some (.iload 6, 2, (0, [], .null)), none, some (.iload 5, 2, (0, [], .null)), none, some (.if_icmp .ge 46, 3, (127, [], .null)), none, none, some (.aload_n 0, 1, (0, [], .null)), some (.iload_n 3, 1, (0, [], .null)), some (.iconst 2, 1, (0, [], .int (2))), some (.if_icmp .ge 10, 3, (97, [], .null)), none, none, some (.iload 6, 2, (0, [], .null)), none, some (.iconst 1, 1, (0, [], .int (1))), some (.iadd, 1, (0, [], .null)), some (.goto 5, 3, (99, [], .null)), none, none, some (.iload 6, 2, (0, [], .null)), none, some (.aload_n 0, 1, (0, [], .null)), some (.iload_n 2, 1, (0, [], .null)), some (.iload 6, 2, (0, [], .null)), none, some (.invokevirtual 80, 3, (1, [(11, 122)], .ref 84)), none, none, some (.iload_n 3, 1, (0, [], .null)), some (.iconst 2, 1, (0, [], .int (2))), some (.irem, 1, (0, [], .null)), some (.ifCond .ne 7, 3, (116, [], .null)), none, none, some (.iconst 1, 1, (0, [], .int (1))), some (.goto 4, 3, (117, [], .null)), none, none, some (.iconst 0, 1, (0, [], .int (0))), some (.iadd, 1, (0, [], .null)), some (.invokevirtual 105, 3, (1, [(11, 128)], .ref 90)), none, none, some (.iinc 6 1, 3, (0, [], .int (1))), none, none, some (.goto (-47), 3, (77, [], .null)), none, none, some (.aload_n 0, 1, (0, [], .null)), some (.iload_n 3, 1, (0, [], .null)), some (.iconst 2, 1, (0, [], .int (2))), some (.if_icmp .ge 7, 3, (137, [], .null)), none, none, some (.iconst 0, 1, (0, [], .int (0))), some (.goto 5, 3, (139, [], .null)), none, none, some (.iload 5, 2, (0, [], .null)), none, some (.iload_n 3, 1, (0, [], .null)), some (.iconst 2, 1, (0, [], .int (2))), some (.irem, 1, (0, [], .null)), some (.ifCond .ne 7, 3, (149, [], .null)), none, none, some (.iconst 0, 1, (0, [], .int (0))), some (.goto 5, 3, (151, [], .null)), none, none, some (.iload 5, 2, (0, [], .null)), none, some (.invokevirtual 105, 3, (1, [(11, 128)], .ref 90)), none, none, some (.aload_n 0, 1, (0, [], .null)), some (.iload_n 1, 1, (0, [], .null)), some (.iconst 1, 1, (0, [], .int (1))), some (.invokevirtual 108, 3, (1, [(11, 127)], .ref 91)), none, none, some (.ireturn, 1, (0, [], .null))]
/-- LonelyDotsModel.turned(III)I -/
def lk_b139 : List (Option lk_E) := [some (.aload_n 0, 1, (0, [], .null)), some (.getfield 25, 3, (5, [(11, 0)], .null)), none, none, some (.iload_n 1, 1, (0, [], .null)), some (.iaload, 1, (0, [], .null)), some (.istore 4, 2, (0, [], .null)), none, some (.iload_n 2, 1, (0, [], .null)), some (.iconst 4, 1, (0, [], .int (4))), some (.if_icmp .ge 47, 3, (57, [], .null)), none, none, some (.aload_n 0, 1, (0, [], .null)), some (.iload_n 1, 1, (0, [], .null)), some (.iload_n 2, 1, (0, [], .null)), some (.iconst 1, 1, (0, [], .int (1))), some (.iand, 1, (0, [], .null)), some (.iconst 1, 1, (0, [], .int (1))), some (.if_icmp .ne 12, 3, (31, [], .null)), none, none, some (.iload 4, 2, (0, [], .null)), none, some (.iconst 1, 1, (0, [], .int (1))), some (.isub, 1, (0, [], .null)), some (.iload_n 3, 1, (0, [], .null)), some (.isub, 1, (0, [], .null)), some (.goto 4, 3, (32, [], .null)), none, none, some (.iload_n 3, 1, (0, [], .null)), some (.invokevirtual 80, 3, (1, [(11, 122)], .ref 84)), none, none, some (.istore 5, 2, (0, [], .null)), none, some (.iload_n 2, 1, (0, [], .null)), some (.iconst 2, 1, (0, [], .int (2))), some (.iand, 1, (0, [], .null)), some (.iconst 2, 1, (0, [], .int (2))), some (.if_icmp .ne 13, 3, (54, [], .null)), none, none, some (.iload 4, 2, (0, [], .null)), none, some (.iconst 1, 1, (0, [], .int (1))), some (.isub, 1, (0, [], .null)), some (.iload 5, 2, (0, [], .null)), none, some (.isub, 1, (0, [], .null)), some (.goto 5, 3, (56, [], .null)), none, none, some (.iload 5, 2, (0, [], .null)), none, some (.ireturn, 1, (0, [], .null)), some (.iconst 0, 1, (0, [], .int (0))), some (.istore 5, 2, (0, [], .null)), none, some (.aload_n 0, 1, (0, [], .null)), some (.iload_n 1, 1, (0, [], .null)), some (.iload_n 2, 1, (0, [], .null)), some (.iload 5, 2, (0, [], .null)), none, some (.invokevirtual 138, 3, (1, [(11, 140)], .ref 97)), none, none, some (.iload_n 3, 1, (0, [], .null)), some (.if_icmp .eq 9, 3, (78, [], .null)), none, none, some (.iinc 5 1, 3, (0, [], .int (1))), none, none, some (.goto (-15), 3, (60, [], .null)), none, none, some (.iload 5, 2, (0, [], .null)), none, some (.ireturn, 1, (0, [], .null))]
/-- LonelyDotsModel.turned4(III)I -/
def lk_b140 : List (Option lk_E) := [some (.aload_n 0, 1, (0, [], .null)), some (.getfield 25, 3, (5, [(11, 0)], .null)), none, none, some (.iload_n 1, 1, (0, [], .null)), some (.iaload, 1, (0, [], .null)), some (.istore 4, 2, (0, [], .null)), none, some (.aload_n 0, 1, (0, [], .null)), some (.iload_n 1, 1, (0, [], .null)), some (.iload_n 2, 1, (0, [], .null)), some (.iconst 1, 1, (0, [], .int (1))), some (.iand, 1, (0, [], .null)), some (.iconst 1, 1, (0, [], .int (1))), some (.if_icmp .ne 12, 3, (26, [], .null)), none, none, some (.iload 4, 2, (0, [], .null)), none, some (.iconst 1, 1, (0, [], .int (1))), some (.isub, 1, (0, [], .null)), some (.iload_n 3, 1, (0, [], .null)), some (.isub, 1, (0, [], .null)), some (.goto 4, 3, (27, [], .null)), none, none, some (.iload_n 3, 1, (0, [], .null)), some (.invokevirtual 80, 3, (1, [(11, 122)], .ref 84)), none, none, some (.istore 5, 2, (0, [], .null)), none, some (.iload_n 2, 1, (0, [], .null)), some (.iconst 2, 1, (0, [], .int (2))), some (.iand, 1, (0, [], .null)), some (.iconst 2, 1, (0, [], .int (2))), some (.if_icmp .ne 13, 3, (49, [], .null)), none, none, some (.iload 4, 2, (0, [], .null)), none, some (.iconst 1, 1, (0, [], .int (1))), some (.isub, 1, (0, [], .null)), some (.iload 5, 2, (0, [], .null)), none, some (.isub, 1, (0, [], .null)), some (.goto 5, 3, (51, [], .null)), none, none, some (.iload 5, 2, (0, [], .null)), none, some (.ireturn, 1, (0, [], .null))]
/-- LonelyDotsModel.turn(III)I -/
def lk_b141 : List (Option lk_E) := [some (.iload_n 1, 1, (0, [], .null)), some (.invokestatic 100, 3, (0, [(0, 120)], .ref 89)), none, none, some (.ifCond .eq 22, 3, (26, [], .null)), none, none, some (.iload_n 2, 1, (0, [], .null)), some (.invokestatic 100, 3, (0, [(0, 120)], .ref 89)), none, none, some (.ifCond .eq 15, 3, (26, [], .null)), none, none, some (.iload_n 3, 1, (0, [], .null)), some (.i2l, 1, (0, [], .null)), some (.lconst 0, 1, (0, [], .long 0)), some (.ldc2_w 58, 3, (0, [], .long (7))), none, none, some (.invokestatic 60, 3, (0, [(0, 112)], .ref 80)), none, none, some (.ifCond .ne 6, 3, (29, [], .null)), none, none, some (.ldc 70, 2, (0, [], .int (-1000001))), none, some (.ireturn, 1, (0, [], .null)), some (.aload_n 0, 1, (0, [], .null)), some (.iload_n 2, 1, (0, [], .null)), some (.iconst 1, 1, (0, [], .int (1))), some (.invokevirtual 134, 3, (1, [(11, 136)], .ref 96)), none, none, some (.istore 4, 2, (0, [], .null)), none, some (.iload 4, 2, (0, [], .null)), none, some (.ifCond .eq 6, 3, (45, [], .null)), none, none, some (.iload 4, 2, (0, [], .null)), none, some (.ireturn, 1, (0, [], .null)), some (.aload_n 0, 1, (0, [], .null)), some (.getfield 25, 3, (5, [(11, 0)], .null)), none, none, some (.bipush 10, 2, (0, [], .int (10))), none, some (.aload_n 0, 1, (0, [], .null)), some (.getfield 25, 3, (5, [(11, 0)], .null)), none, none, some (.iload_n 2, 1, (0, [], .null)), some (.iaload, 1, (0, [], .null)), some (.iastore, 1, (0, [], .null)), some (.iconst 0, 1, (0, [], .int (0))), some (.istore 5, 2, (0, [], .null)), none, some (.iload 5, 2, (0, [], .null)), none, some (.aload_n 0, 1, (0, [], .null)), some (.getfield 25, 3, (5, [(11, 0)], .null)), none, none, some (.iload_n 2, 1, (0, [], .null)), some (.iaload, 1, (0, [], .null)), some (.if_icmp .ge 23, 3, (92, [], .null)), none, none, some (.aload_n 0, 1, (0, [], .null)), some (.iload 5, 2, (0, [], .null)), none, some (.aload_n 0, 1, (0, [], .null)), some (.iload_n 2, 1, (0, [], .null)), some (.iload_n 3, 1, (0, [], .null)), some (.iload 5, 2, (0, [], .null)), none, some (.invokevirtual 141, 3, (1, [(11, 139)], .ref 98)), none, none, some (.invokevirtual 105, 3, (1, [(11, 128)], .ref 90)), none, none, some (.iinc 5 1, 3, (0, [], .int (1))), none, none, some (.goto (-28), 3, (61, [], .null)), none, none, some (.aload_n 0, 1, (0, [], .null)), some (.iload_n 1, 1, (0, [], .null)), some (.iconst 1, 1, (0, [], .int (1))), some (.invokevirtual 108, 3, (1, [(11, 127)], .ref 91)), none, none, some (.ireturn, 1, (0, [], .null))]
/-- LonelyDotsModel.first(I)V -/
def lk_b142 : List (Option lk_E) := [some (.aload_n 0, 1, (0, [], .null)), some (.getfield 25, 3, (5, [(11, 0)], .null)), none, none, some (.bipush 10, 2, (0, [], .int (10))), none, some (.iload_n 1, 1, (0, [], .null)), some (.iastore, 1, (0, [], .null)), some (.iconst 0, 1, (0, [], .int (0))), some (.istore_n 2, 1, (0, [], .null)), some (.iload_n 2, 1, (0, [], .null)), some (.iload_n 1, 1, (0, [], .null)), some (.if_icmp .ge 15, 3, (27, [], .null)), none, none, some (.aload_n 0, 1, (0, [], .null)), some (.iload_n 2, 1, (0, [], .null)), some (.iload_n 2, 1, (0, [], .null)), some (.invokevirtual 105, 3, (1, [(11, 128)], .ref 90)), none, none, some (.iinc 2 1, 3, (0, [], .int (1))), none, none, some (.goto (-14), 3, (10, [], .null)), none, none, some (.return_, 1, (0, [], .null))]
/-- LonelyDotsModel.next()Z -/
def lk_b143 : List (Option lk_E) := [some (.aload_n 0, 1, (0, [], .null)), some (.getfield 25, 3, (5, [(11, 0)], .null)), none, none, some (.bipush 10, 2, (0, [], .int (10))), none, some (.iaload, 1, (0, [], .null)), some (.istore_n 1, 1, (0, [], .null)), some (.iload_n 1, 1, (0, [], .null)), some (.iconst 2, 1, (0, [], .int (2))), some (.isub, 1, (0, [], .null)), some (.istore_n 2, 1, (0, [], .null)), some (.iload_n 2, 1, (0, [], .null)), some (.ifCond .lt 28, 3, (41, [], .null)), none, none, some (.aload_n 0, 1, (0, [], .null)), some (.bipush 10, 2, (0, [], .int (10))), none, some (.iload_n 2, 1, (0, [], .null)), some (.invokevirtual 80, 3, (1, [(11, 122)], .ref 84)), none, none, some (.aload_n 0, 1, (0, [], .null)), some (.bipush 10, 2, (0, [], .int (10))), none, some (.iload_n 2, 1, (0, [], .null)), some (.iconst 1, 1, (0, [], .int (1))), some (.iadd, 1, (0, [], .null)), some (.invokevirtual 80, 3, (1, [(11, 122)], .ref 84)), none, none, some (.if_icmp .le 9, 3, (41, [], .null)), none, none, some (.iinc 2 (-1), 3, (0, [], .int (-1))), none, none, some (.goto (-26), 3, (12, [], .null)), none, none, some (.iload_n 2, 1, (0, [], .null)), some (.ifCond .ge 5, 3, (47, [], .null)), none, none, some (.iconst 0, 1, (0, [], .int (0))), some (.ireturn, 1, (0, [], .null)), some (.iload_n 1, 1, (0, [], .null)), some (.iconst 1, 1, (0, [], .int (1))), some (.isub, 1, (0, [], .null)), some (.istore_n 3, 1, (0, [], .null)), some (.aload_n 0, 1, (0, [], .null)), some (.bipush 10, 2, (0, [], .int (10))), none, some (.iload_n 3, 1, (0, [], .null)), some (.invokevirtual 80, 3, (1, [(11, 122)], .ref 84)), none, none, some (.aload_n 0, 1, (0, [], .null)), some (.bipush 10, 2, (0, [], .int (10))), none, some (.iload_n 2, 1, (0, [], .null)), some (.invokevirtual 80, 3, (1, [(11, 122)], .ref 84)), none, none, some (.if_icmp .ge 9, 3, (74, [], .null)), none, none, some (.iinc 3 (-1), 3, (0, [], .int (-1))), none, none, some (.goto (-20), 3, (51, [], .null)), none, none, some (.aload_n 0, 1, (0, [], .null)), some (.bipush 10, 2, (0, [], .int (10))), none, some (.iload_n 2, 1, (0, [], .null)), some (.invokevirtual 80, 3, (1, [(11, 122)], .ref 84)), none, none, some (.istore 4, 2, (0, [], .null)), none, some (.aload_n 0, 1, (0, [], .null)), some (.iload_n 2, 1, (0, [], .null)), some (.aload_n 0, 1, (0, [], .null)), some (.bipush 10, 2, (0, [], .int (10))), none, some (.iload_n 3, 1, (0, [], .null)), some (.invokevirtual 80, 3, (1, [(11, 122)], .ref 84)), none, none, some (.invokevirtual 105, 3, (1, [(11, 128)], .ref 90)), none, none, some (.aload_n 0, 1, (0, [], .null)), some (.iload_n 3, 1, (0, [], .null)), some (.iload 4, 2, (0, [], .null)), none, some (.invokevirtual 105, 3, (1, [(11, 128)], .ref 90)), none, none, some (.iload_n 2, 1, (0, [], .null)), some (.iconst 1, 1, (0, [], .int (1))), some (.iadd, 1, (0, [], .null)), some (.istore 5, 2, (0, [], .null)), none, some (.iload_n 1, 1, (0, [], .null)), some (.iconst 1, 1, (0, [], .int (1))), some (.isub, 1, (0, [], .null)), some (.istore 6, 2, (0, [], .null)), none, some (.iload 5, 2, (0, [], .null)), none, some (.iload 6, 2, (0, [], .null)), none, some (.if_icmp .ge 44, 3, (160, [], .null)), none, none, some (.aload_n 0, 1, (0, [], .null)), some (.bipush 10, 2, (0, [], .int (10))), none, some (.iload 5, 2, (0, [], .null)), none, some (.invokevirtual 80, 3, (1, [(11, 122)], .ref 84)), none, none, some (.istore 4, 2, (0, [], .null)), none, some (.aload_n 0, 1, (0, [], .null)), some (.iload 5, 2, (0, [], .null)), none, some (.aload_n 0, 1, (0, [], .null)), some (.bipush 10, 2, (0, [], .int (10))), none, some (.iload 6, 2, (0, [], .null)), none, some (.invokevirtual 80, 3, (1, [(11, 122)], .ref 84)), none, none, some (.invokevirtual 105, 3, (1, [(11, 128)], .ref 90)), none, none, some (.aload_n 0, 1, (0, [], .null)), some (.iload 6, 2, (0, [], .null)), none, some (.iload 4, 2, (0, [], .null)), none, some (.invokevirtual 105, 3, (1, [(11, 128)], .ref 90)), none, none, some (.iinc 5 1, 3, (0, [], .int (1))), none, none, some (.iinc 6 (-1), 3, (0, [], .int (-1))), none, none, some (.goto (-45), 3, (112, [], .null)), none, none, some (.iconst 1, 1, (0, [], .int (1))), some (.ireturn, 1, (0, [], .null))]
/-- LonelyDotsModel.nth(III)I -/
def lk_b144 : List (Option lk_E) := [some (.iload_n 1, 1, (0, [], .null)), some (.invokestatic 100, 3, (0, [(0, 120)], .ref 89)), none, none, some (.ifCond .eq 15, 3, (19, [], .null)), none, none, some (.iload_n 2, 1, (0, [], .null)), some (.i2l, 1, (0, [], .null)), some (.lconst 1, 1, (0, [], .long 1)), some (.ldc2_w 58, 3, (0, [], .long (7))), none, none, some (.invokestatic 60, 3, (0, [(0, 112)], .ref 80)), none, none, some (.ifCond .ne 6, 3, (22, [], .null)), none, none, some (.ldc 70, 2, (0, [], .int (-1000001))), none, some (.ireturn, 1, (0, [], .null)), some (.iload_n 3, 1, (0, [], .null)), some (.istore 4, 2, (0, [], .null)), none, some (.aload_n 0, 1, (0, [], .null)), some (.iload_n 2, 1, (0, [], .null)), some (.invokevirtual 144, 3, (1, [(11, 142)], .ref 99)), none, none, some (.iload_n 3, 1, (0, [], .null)), some (.ifCond .lt 7, 3, (38, [], .null)), none, none, some (.iconst 1, 1, (0, [], .int (1))), some (.goto 4, 3, (39, [], .null)), none, none, some (.iconst 0, 1, (0, [], .int (0))), some (.istore 5, 2, (0, [], .null)), none, some (.iload 5, 2, (0, [], .null)), none, some (.ifCond .eq 37, 3, (80, [], .null)), none, none, some (.aload_n 0, 1, (0, [], .null)), some (.bipush 10, 2, (0, [], .int (10))), none, some (.iconst 1, 1, (0, [], .int (1))), some (.invokevirtual 89, 3, (1, [(11, 124)], .ref 86)), none, none, some (.ifCond .ne 18, 3, (71, [], .null)), none, none, some (.iload 4, 2, (0, [], .null)), none, some (.ifCond .ne 10, 3, (68, [], .null)), none, none, some (.aload_n 0, 1, (0, [], .null)), some (.iload_n 1, 1, (0, [], .null)), some (.iconst 1, 1, (0, [], .int (1))), some (.invokevirtual 108, 3, (1, [(11, 127)], .ref 91)), none, none, some (.ireturn, 1, (0, [], .null)), some (.iinc 4 (-1), 3, (0, [], .int (-1))), none, none, some (.aload_n 0, 1, (0, [], .null)), some (.invokevirtual 148, 3, (1, [(11, 143)], .ref 100)), none, none, some (.istore 5, 2, (0, [], .null)), none, some (.goto (-36), 3, (41, [], .null)), none, none, some (.aload_n 0, 1, (0, [], .null)), some (.ldc 88, 2, (0, [], .int (-1000000))), none, some (.invokevirtual 75, 3, (1, [(11, 114)], .ref 83)), none, none, some (.ireturn, 1, (0, [], .null))]
/-- LonelyDotsModel.clear(I)I -/
def lk_b145 : List (Option lk_E) := [some (.iload_n 1, 1, (0, [], .null)), some (.invokestatic 100, 3, (0, [(0, 120)], .ref 89)), none, none, some (.ifCond .ne 6, 3, (10, [], .null)), none, none, some (.ldc 70, 2, (0, [], .int (-1000001))), none, some (.ireturn, 1, (0, [], .null)), some (.aload_n 0, 1, (0, [], .null)), some (.getfield 22, 3, (4, [(11, 0)], .null)), none, none, some (.iload_n 1, 1, (0, [], .null)), some (.iaload, 1, (0, [], .null)), some (.ifCond .le 7, 3, (23, [], .null)), none, none, some (.iconst 1, 1, (0, [], .int (1))), some (.goto 4, 3, (24, [], .null)), none, none, some (.iconst 0, 1, (0, [], .int (0))), some (.istore_n 2, 1, (0, [], .null)), some (.aload_n 0, 1, (0, [], .null)), some (.getfield 22, 3, (4, [(11, 0)], .null)), none, none, some (.iload_n 1, 1, (0, [], .null)), some (.iconst 0, 1, (0, [], .int (0))), some (.iastore, 1, (0, [], .null)), some (.iload_n 2, 1, (0, [], .null)), some (.ireturn, 1, (0, [], .null))]
/-- LonelyDotsModel.kind(I)I -/
def lk_b146 : List (Option lk_E) := [some (.iload_n 1, 1, (0, [], .null)), some (.invokestatic 100, 3, (0, [(0, 120)], .ref 89)), none, none, some (.ifCond .ne 6, 3, (10, [], .null)), none, none, some (.ldc 70, 2, (0, [], .int (-1000001))), none, some (.ireturn, 1, (0, [], .null)), some (.aload_n 0, 1, (0, [], .null)), some (.getfield 22, 3, (4, [(11, 0)], .null)), none, none, some (.iload_n 1, 1, (0, [], .null)), some (.iaload, 1, (0, [], .null)), some (.ifCond .ne 11, 3, (27, [], .null)), none, none, some (.aload_n 0, 1, (0, [], .null)), some (.iconst 1, 1, (0, [], .int (1))), some (.invokevirtual 71, 3, (1, [(11, 113)], .ref 82)), none, none, some (.goto 13, 3, (37, [], .null)), none, none, some (.aload_n 0, 1, (0, [], .null)), some (.aload_n 0, 1, (0, [], .null)), some (.getfield 22, 3, (4, [(11, 0)], .null)), none, none, some (.iload_n 1, 1, (0, [], .null)), some (.iaload, 1, (0, [], .null)), some (.invokevirtual 75, 3, (1, [(11, 114)], .ref 83)), none, none, some (.ireturn, 1, (0, [], .null))]
/-- LonelyDotsModel.is(II)I -/
def lk_b147 : List (Option lk_E) := [some (.iload_n 1, 1, (0, [], .null)), some (.invokestatic 100, 3, (0, [(0, 120)], .ref 89)), none, none, some (.ifCond .eq 15, 3, (19, [], .null)), none, none, some (.iload_n 2, 1, (0, [], .null)), some (.i2l, 1, (0, [], .null)), some (.lconst 0, 1, (0, [], .long 0)), some (.ldc2_w 152, 3, (0, [], .long (5))), none, none, some (.invokestatic 60, 3, (0, [(0, 112)], .ref 80)), none, none, some (.ifCond .ne 6, 3, (22, [], .null)), none, none, some (.ldc 70, 2, (0, [], .int (-1000001))), none, some (.ireturn, 1, (0, [], .null)), some (.aload_n 0, 1, (0, [], .null)), some (.getfield 22, 3, (4, [(11, 0)], .null)), none, none, some (.iload_n 1, 1, (0, [], .null)), some (.iaload, 1, (0, [], .null)), some (.ifCond .le 20, 3, (48, [], .null)), none, none, some (.aload_n 0, 1, (0, [], .null)), some (.getfield 22, 3, (4, [(11, 0)], .null)), none, none, some (.iload_n 1, 1, (0, [], .null)), some (.iaload, 1, (0, [], .null)), some (.iload_n 2, 1, (0, [], .null)), some (.invokestatic 129, 3, (0, [(0, 121)], .ref 95)), none, none, some (.ifCond .eq 7, 3, (48, [], .null)), none, none, some (.iconst 1, 1, (0, [], .int (1))), some (.goto 4, 3, (49, [], .null)), none, none, some (.iconst 0, 1, (0, [], .int (0))), some (.ireturn, 1, (0, [], .null))]
/-- LonelyDotsModel.as(II)I -/
def lk_b148 : List (Option lk_E) := [some (.iload_n 1, 1, (0, [], .null)), some (.invokestatic 100, 3, (0, [(0, 120)], .ref 89)), none, none, some (.ifCond .eq 15, 3, (19, [], .null)), none, none, some (.iload_n 2, 1, (0, [], .null)), some (.i2l, 1, (0, [], .null)), some (.lconst 0, 1, (0, [], .long 0)), some (.ldc2_w 152, 3, (0, [], .long (5))), none, none, some (.invokestatic 60, 3, (0, [(0, 112)], .ref 80)), none, none, some (.ifCond .ne 6, 3, (22, [], .null)), none, none, some (.ldc 70, 2, (0, [], .int (-1000001))), none, some (.ireturn, 1, (0, [], .null)), some (.aload_n 0, 1, (0, [], .null)), some (.iload_n 1, 1, (0, [], .null)), some (.iload_n 2, 1, (0, [], .null)), some (.invokevirtual 134, 3, (1, [(11, 136)], .ref 96)), none, none, some (.istore_n 3, 1, (0, [], .null)), some (.iload_n 3, 1, (0, [], .null)), some (.ifCond .eq 7, 3, (37, [], .null)), none, none, some (.iload_n 3, 1, (0, [], .null)), some (.goto 13, 3, (47, [], .null)), none, none, some (.aload_n 0, 1, (0, [], .null)), some (.aload_n 0, 1, (0, [], .null)), some (.getfield 25, 3, (5, [(11, 0)], .null)), none, none, some (.iload_n 1, 1, (0, [], .null)), some (.iaload, 1, (0, [], .null)), some (.invokevirtual 75, 3, (1, [(11, 114)], .ref 83)), none, none, some (.ireturn, 1, (0, [], .null))]
/-- LonelyDotsModel.begins(I)V -/
def lk_b149 : List (Option lk_E) := [some (.aload_n 0, 1, (0, [], .null)), some (.getfield 154, 3, (9, [(11, 0)], .null)), none, none, some (.bipush 16, 2, (0, [], .int (16))), none, some (.if_icmp .ge 23, 3, (29, [], .null)), none, none, some (.aload_n 0, 1, (0, [], .null)), some (.getfield 31, 3, (8, [(11, 0)], .null)), none, none, some (.aload_n 0, 1, (0, [], .null)), some (.getfield 154, 3, (9, [(11, 0)], .null)), none, none, some (.iload_n 1, 1, (0, [], .null)), some (.iastore, 1, (0, [], .null)), some (.aload_n 0, 1, (0, [], .null)), some (.dup, 1, (0, [], .null)), some (.getfield 154, 3, (9, [(11, 0)], .null)), none, none, some (.iconst 1, 1, (0, [], .int (1))), some (.iadd, 1, (0, [], .null)), some (.putfield 154, 3, (9, [(11, 0)], .null)), none, none, some (.return_, 1, (0, [], .null))]
/-- LonelyDotsModel.countMarks(I)I -/
def lk_b150 : List (Option lk_E) := [some (.aload_n 0, 1, (0, [], .null)), some (.bipush 22, 2, (0, [], .int (22))), none, some (.invokevirtual 157, 3, (1, [(11, 149)], .ref 101)), none, none, some (.aload_n 0, 1, (0, [], .null)), some (.getfield 25, 3, (5, [(11, 0)], .null)), none, none, some (.iload_n 1, 1, (0, [], .null)), some (.iaload, 1, (0, [], .null)), some (.ireturn, 1, (0, [], .null))]
/-- LonelyDotsModel.sizeOf(I)I -/
def lk_b151 : List (Option lk_E) := [some (.aload_n 0, 1, (0, [], .null)), some (.getfield 22, 3, (4, [(11, 0)], .null)), none, none, some (.iload_n 1, 1, (0, [], .null)), some (.iaload, 1, (0, [], .null)), some (.istore_n 2, 1, (0, [], .null)), some (.iload_n 2, 1, (0, [], .null)), some (.iconst 3, 1, (0, [], .int (3))), some (.if_icmp .ge 16, 3, (25, [], .null)), none, none, some (.aload_n 0, 1, (0, [], .null)), some (.bipush 11, 2, (0, [], .int (11))), none, some (.invokevirtual 157, 3, (1, [(11, 149)], .ref 101)), none, none, some (.aload_n 0, 1, (0, [], .null)), some (.getfield 25, 3, (5, [(11, 0)], .null)), none, none, some (.iload_n 1, 1, (0, [], .null)), some (.iaload, 1, (0, [], .null)), some (.ireturn, 1, (0, [], .null)), some (.iload_n 2, 1, (0, [], .null)), some (.iconst 5, 1, (0, [], .int (5))), some (.if_icmp .ne 9, 3, (36, [], .null)), none, none, some (.aload_n 0, 1, (0, [], .null)), some (.bipush 14, 2, (0, [], .int (14))), none, some (.invokevirtual 157, 3, (1, [(11, 149)], .ref 101)), none, none, some (.iload_n 2, 1, (0, [], .null)), some (.iconst 3, 1, (0, [], .int (3))), some (.if_icmp .le 9, 3, (47, [], .null)), none, none, some (.aload_n 0, 1, (0, [], .null)), some (.bipush 13, 2, (0, [], .int (13))), none, some (.invokevirtual 157, 3, (1, [(11, 149)], .ref 101)), none, none, some (.aload_n 0, 1, (0, [], .null)), some (.bipush 12, 2, (0, [], .int (12))), none, some (.invokevirtual 157, 3, (1, [(11, 149)], .ref 101)), none, none, some (.aload_n 0, 1, (0, [], .null)), some (.bipush 10, 2, (0, [], .int (10))), none, some (.invokevirtual 157, 3, (1, [(11, 149)], .ref 101)), none, none, some (.iconst 1, 1, (0, [], .int (1))), some (.aload_n 0, 1, (0, [], .null)), some (.iload_n 1, 1, (0, [], .null)), some (.aload_n 0, 1, (0, [], .null)), some (.getfield 25, 3, (5, [(11, 0)], .null)), none, none, some (.iload_n 1, 1, (0, [], .null)), some (.iaload, 1, (0, [], .null)), some (.iconst 1, 1, (0, [], .int (1))), some (.isub, 1, (0, [], .null)), some (.invokevirtual 80, 3, (1, [(11, 122)], .ref 84)), none, none, some (.iadd, 1, (0, [], .null)), some (.istore_n 3, 1, (0, [], .null)), some (.iload_n 2, 1, (0, [], .null)), some (.iconst 3, 1, (0, [], .int (3))), some (.if_icmp .le 9, 3, (86, [], .null)), none, none, some (.iconst 2, 1, (0, [], .int (2))), some (.iload_n 3, 1, (0, [], .null)), some (.imul, 1, (0, [], .null)), some (.goto 4, 3, (87, [], .null)), none, none, some (.iload_n 3, 1, (0, [], .null)), some (.istore_n 3, 1, (0, [], .null)), some (.iload_n 2, 1, (0, [], .null)), some (.iconst 5, 1, (0, [], .int (5))), some (.if_icmp .ne 13, 3, (103, [], .null)), none, none, some (.iload_n 3, 1, (0, [], .null)), some (.aload_n 0, 1, (0, [], .null)), some (.iload_n 1, 1, (0, [], .null)), some (.invokevirtual 160, 3, (1, [(11, 150)], .ref 102)), none, none, some (.iadd, 1, (0, [], .null)), some (.goto 4, 3, (104, [], .null)), none, none, some (.iload_n 3, 1, (0, [], .null)), some (.ireturn, 1, (0, [], .null))]
/-- LonelyDotsModel.mark(I)I -/
def lk_b152 : List (Option lk_E) := [some (.aload_n 0, 1, (0, [], .null)), some (.getfield 22, 3, (4, [(11, 0)], .null)), none, none, some (.iload_n 1, 1, (0, [], .null)), some (.iaload, 1, (0, [], .null)), some (.istore_n 2, 1, (0, [], .null)), some (.iload_n 2, 1, (0, [], .null)), some (.iconst 2, 1, (0, [], .int (2))), some (.if_icmp .le 9, 3, (18, [], .null)), none, none, some (.aload_n 0, 1, (0, [], .null)), some (.iload_n 1, 1, (0, [], .null)), some (.invokevirtual 160, 3, (1, [(11, 150)], .ref 102)), none, none, some (.ireturn, 1, (0, [], .null)), some (.iload_n 2, 1, (0, [], .null)), some (.iconst 2, 1, (0, [], .int (2))), some (.if_icmp .ne 9, 3, (29, [], .null)), none, none, some (.aload_n 0, 1, (0, [], .null)), some (.bipush 21, 2, (0, [], .int (21))), none, some (.invokevirtual 157, 3, (1, [(11, 149)], .ref 101)), none, none, some (.aload_n 0, 1, (0, [], .null)), some (.bipush 20, 2, (0, [], .int (20))), none, some (.invokevirtual 157, 3, (1, [(11, 149)], .ref 101)), none, none, some (.aload_n 0, 1, (0, [], .null)), some (.iload_n 1, 1, (0, [], .null)), some (.invokevirtual 163, 3, (1, [(11, 151)], .ref 103)), none, none, some (.iconst 4, 1, (0, [], .int (4))), some (.iadd, 1, (0, [], .null)), some (.istore_n 3, 1, (0, [], .null)), some (.iload_n 2, 1, (0, [], .null)), some (.iconst 2, 1, (0, [], .int (2))), some (.if_icmp .ne 9, 3, (54, [], .null)), none, none, some (.iconst 2, 1, (0, [], .int (2))), some (.iload_n 3, 1, (0, [], .null)), some (.imul, 1, (0, [], .null)), some (.goto 4, 3, (55, [], .null)), none, none, some (.iload_n 3, 1, (0, [], .null)), some (.ireturn, 1, (0, [], .null))]
/-- LonelyDotsModel.ask(II)I -/
def lk_b153 : List (Option lk_E) := [some (.iload_n 1, 1, (0, [], .null)), some (.invokestatic 100, 3, (0, [(0, 120)], .ref 89)), none, none, some (.ifCond .eq 13, 3, (17, [], .null)), none, none, some (.iload_n 2, 1, (0, [], .null)), some (.i2l, 1, (0, [], .null)), some (.lconst 0, 1, (0, [], .long 0)), some (.lconst 1, 1, (0, [], .long 1)), some (.invokestatic 60, 3, (0, [(0, 112)], .ref 80)), none, none, some (.ifCond .ne 6, 3, (20, [], .null)), none, none, some (.ldc 70, 2, (0, [], .int (-1000001))), none, some (.ireturn, 1, (0, [], .null)), some (.aload_n 0, 1, (0, [], .null)), some (.iconst 0, 1, (0, [], .int (0))), some (.putfield 154, 3, (9, [(11, 0)], .null)), none, none, some (.aload_n 0, 1, (0, [], .null)), some (.getfield 22, 3, (4, [(11, 0)], .null)), none, none, some (.iload_n 1, 1, (0, [], .null)), some (.iaload, 1, (0, [], .null)), some (.ifCond .ne 9, 3, (40, [], .null)), none, none, some (.aload_n 0, 1, (0, [], .null)), some (.iconst 1, 1, (0, [], .int (1))), some (.invokevirtual 71, 3, (1, [(11, 113)], .ref 82)), none, none, some (.ireturn, 1, (0, [], .null)), some (.aload_n 0, 1, (0, [], .null)), some (.iload_n 2, 1, (0, [], .null)), some (.ifCond .ne 11, 3, (53, [], .null)), none, none, some (.aload_n 0, 1, (0, [], .null)), some (.iload_n 1, 1, (0, [], .null)), some (.invokevirtual 163, 3, (1, [(11, 151)], .ref 103)), none, none, some (.goto 8, 3, (58, [], .null)), none, none, some (.aload_n 0, 1, (0, [], .null)), some (.iload_n 1, 1, (0, [], .null)), some (.invokevirtual 166, 3, (1, [(11, 152)], .ref 104)), none, none, some (.invokevirtual 75, 3, (1, [(11, 114)], .ref 83)), none, none, some (.ireturn, 1, (0, [], .null))]
/-- LonelyDotsModel.trace(I)I -/
def lk_b154 : List (Option lk_E) := [some (.iload_n 1, 1, (0, [], .null)), some (.i2l, 1, (0, [], .null)), some (.lconst 0, 1, (0, [], .long 0)), some (.aload_n 0, 1, (0, [], .null)), some (.getfield 154, 3, (9, [(11, 0)], .null)), none, none, some (.iconst 1, 1, (0, [], .int (1))), some (.isub, 1, (0, [], .null)), some (.i2l, 1, (0, [], .null)), some (.invokestatic 60, 3, (0, [(0, 112)], .ref 80)), none, none, some (.ifCond .eq 12, 3, (25, [], .null)), none, none, some (.aload_n 0, 1, (0, [], .null)), some (.getfield 31, 3, (8, [(11, 0)], .null)), none, none, some (.iload_n 1, 1, (0, [], .null)), some (.iaload, 1, (0, [], .null)), some (.goto 5, 3, (27, [], .null)), none, none, some (.ldc 88, 2, (0, [], .int (-1000000))), none, some (.ireturn, 1, (0, [], .null))]
/-- LonelyDotsModel.at(II)I -/
def lk_b155 : List (Option lk_E) := [some (.iload_n 1, 1, (0, [], .null)), some (.invokestatic 100, 3, (0, [(0, 120)], .ref 89)), none, none, some (.ifCond .ne 6, 3, (10, [], .null)), none, none, some (.ldc 70, 2, (0, [], .int (-1000001))), none, some (.ireturn, 1, (0, [], .null)), some (.aload_n 0, 1, (0, [], .null)), some (.getfield 22, 3, (4, [(11, 0)], .null)), none, none, some (.iload_n 1, 1, (0, [], .null)), some (.iaload, 1, (0, [], .null)), some (.ifCond .ne 9, 3, (25, [], .null)), none, none, some (.aload_n 0, 1, (0, [], .null)), some (.iconst 1, 1, (0, [], .int (1))), some (.invokevirtual 71, 3, (1, [(11, 113)], .ref 82)), none, none, some (.ireturn, 1, (0, [], .null)), some (.iload_n 2, 1, (0, [], .null)), some (.i2l, 1, (0, [], .null)), some (.lconst 0, 1, (0, [], .long 0)), some (.aload_n 0, 1, (0, [], .null)), some (.getfield 25, 3, (5, [(11, 0)], .null)), none, none, some (.iload_n 1, 1, (0, [], .null)), some (.iaload, 1, (0, [], .null)), some (.iconst 1, 1, (0, [], .int (1))), some (.isub, 1, (0, [], .null)), some (.i2l, 1, (0, [], .null)), some (.invokestatic 60, 3, (0, [(0, 112)], .ref 80)), none, none, some (.ifCond .eq 16, 3, (56, [], .null)), none, none, some (.aload_n 0, 1, (0, [], .null)), some (.aload_n 0, 1, (0, [], .null)), some (.iload_n 1, 1, (0, [], .null)), some (.iload_n 2, 1, (0, [], .null)), some (.invokevirtual 80, 3, (1, [(11, 122)], .ref 84)), none, none, some (.invokevirtual 75, 3, (1, [(11, 114)], .ref 83)), none, none, some (.goto 5, 3, (58, [], .null)), none, none, some (.ldc 70, 2, (0, [], .int (-1000001))), none, some (.ireturn, 1, (0, [], .null))]
/-- LonelyDotsModel.alike(II)I -/
def lk_b156 : List (Option lk_E) := [some (.iload_n 1, 1, (0, [], .null)), some (.invokestatic 100, 3, (0, [(0, 120)], .ref 89)), none, none, some (.ifCond .eq 15, 3, (19, [], .null)), none, none, some (.iload_n 2, 1, (0, [], .null)), some (.i2l, 1, (0, [], .null)), some (.lconst 0, 1, (0, [], .long 0)), some (.ldc2_w 132, 3, (0, [], .long (3))), none, none, some (.invokestatic 60, 3, (0, [(0, 112)], .ref 80)), none, none, some (.ifCond .ne 6, 3, (22, [], .null)), none, none, some (.ldc 70, 2, (0, [], .int (-1000001))), none, some (.ireturn, 1, (0, [], .null)), some (.aload_n 0, 1, (0, [], .null)), some (.getfield 22, 3, (4, [(11, 0)], .null)), none, none, some (.iload_n 1, 1, (0, [], .null)), some (.iaload, 1, (0, [], .null)), some (.ifCond .ne 9, 3, (37, [], .null)), none, none, some (.aload_n 0, 1, (0, [], .null)), some (.iconst 1, 1, (0, [], .int (1))), some (.invokevirtual 71, 3, (1, [(11, 113)], .ref 82)), none, none, some (.ireturn, 1, (0, [], .null)), some (.aload_n 0, 1, (0, [], .null)), some (.iload_n 1, 1, (0, [], .null)), some (.aload_n 0, 1, (0, [], .null)), some (.getfield 22, 3, (4, [(11, 0)], .null)), none, none, some (.iload_n 1, 1, (0, [], .null)), some (.iaload, 1, (0, [], .null)), some (.iconst 3, 1, (0, [], .int (3))), some (.if_icmp .ge 7, 3, (53, [], .null)), none, none, some (.iconst 1, 1, (0, [], .int (1))), some (.goto 4, 3, (54, [], .null)), none, none, some (.iconst 0, 1, (0, [], .int (0))), some (.invokevirtual 89, 3, (1, [(11, 124)], .ref 86)), none, none, some (.istore_n 3, 1, (0, [], .null)), some (.aload_n 0, 1, (0, [], .null)), some (.aload_n 0, 1, (0, [], .null)), some (.getfield 34, 3, (10, [(11, 0)], .null)), none, none, some (.iload_n 2, 1, (0, [], .null)), some (.iaload, 1, (0, [], .null)), some (.invokevirtual 75, 3, (1, [(11, 114)], .ref 83)), none, none, some (.ireturn, 1, (0, [], .null))]
/-- LonelyDotsModel.meet(IIII)I -/
def lk_b157 : List (Option lk_E) := [some (.iconst 0, 1, (0, [], .int (0))), some (.istore 5, 2, (0, [], .null)), none, some (.iconst 0, 1, (0, [], .int (0))), some (.istore 6, 2, (0, [], .null)), none, some (.iload 6, 2, (0, [], .null)), none, some (.aload_n 0, 1, (0, [], .null)), some (.getfield 25, 3, (5, [(11, 0)], .null)), none, none, some (.iload_n 2, 1, (0, [], .null)), some (.iaload, 1, (0, [], .null)), some (.if_icmp .ge 62, 3, (76, [], .null)), none, none, some (.iload 5, 2, (0, [], .null)), none, some (.iload 6, 2, (0, [], .null)), none, some (.iload_n 3, 1, (0, [], .null)), some (.iadd, 1, (0, [], .null)), some (.i2l, 1, (0, [], .null)), some (.lconst 0, 1, (0, [], .long 0)), some (.aload_n 0, 1, (0, [], .null)), some (.getfield 25, 3, (5, [(11, 0)], .null)), none, none, some (.iload_n 1, 1, (0, [], .null)), some (.iaload, 1, (0, [], .null)), some (.iconst 1, 1, (0, [], .int (1))), some (.isub, 1, (0, [], .null)), some (.i2l, 1, (0, [], .null)), some (.invokestatic 60, 3, (0, [(0, 112)], .ref 80)), none, none, some (.ifCond .eq 29, 3, (66, [], .null)), none, none, some (.aload_n 0, 1, (0, [], .null)), some (.iload_n 1, 1, (0, [], .null)), some (.iload 6, 2, (0, [], .null)), none, some (.iload_n 3, 1, (0, [], .null)), some (.iadd, 1, (0, [], .null)), some (.invokevirtual 80, 3, (1, [(11, 122)], .ref 84)), none, none, some (.aload_n 0, 1, (0, [], .null)), some (.iload_n 2, 1, (0, [], .null)), some (.iload 6, 2, (0, [], .null)), none, some (.invokevirtual 80, 3, (1, [(11, 122)], .ref 84)), none, none, some (.iload 4, 2, (0, [], .null)), none, some (.iadd, 1, (0, [], .null)), some (.if_icmp .ne 7, 3, (66, [], .null)), none, none, some (.iconst 1, 1, (0, [], .int (1))), some (.goto 4, 3, (67, [], .null)), none, none, some (.iconst 0, 1, (0, [], .int (0))), some (.iadd, 1, (0, [], .null)), some (.istore 5, 2, (0, [], .null)), none, some (.iinc 6 1, 3, (0, [], .int (1))), none, none, some (.goto (-67), 3, (6, [], .null)), none, none, some (.iload 5, 2, (0, [], .null)), none, some (.ireturn, 1, (0, [], .null))]
/-- LonelyDotsModel.isMove(I)Z -/
def lk_b158 : List (Option lk_E) := [some (.iload_n 0, 1, (0, [], .null)), some (.i2l, 1, (0, [], .null)), some (.ldc2_w 169, 3, (0, [], .long (-20))), none, none, some (.ldc2_w 171, 3, (0, [], .long (20))), none, none, some (.invokestatic 60, 3, (0, [(0, 112)], .ref 80)), none, none, some (.ireturn, 1, (0, [], .null))]
/-- LonelyDotsModel.meeting(IIII)I -/
def lk_b159 : List (Option lk_E) := [some (.iload_n 1, 1, (0, [], .null)), some (.invokestatic 100, 3, (0, [(0, 120)], .ref 89)), none, none, some (.ifCond .eq 25, 3, (29, [], .null)), none, none, some (.iload_n 2, 1, (0, [], .null)), some (.invokestatic 100, 3, (0, [(0, 120)], .ref 89)), none, none, some (.ifCond .eq 18, 3, (29, [], .null)), none, none, some (.iload_n 3, 1, (0, [], .null)), some (.invokestatic 173, 3, (0, [(0, 158)], .ref 105)), none, none, some (.ifCond .eq 11, 3, (29, [], .null)), none, none, some (.iload 4, 2, (0, [], .null)), none, some (.invokestatic 173, 3, (0, [(0, 158)], .ref 105)), none, none, some (.ifCond .ne 6, 3, (32, [], .null)), none, none, some (.ldc 70, 2, (0, [], .int (-1000001))), none, some (.ireturn, 1, (0, [], .null)), some (.aload_n 0, 1, (0, [], .null)), some (.iload_n 1, 1, (0, [], .null)), some (.iconst 1, 1, (0, [], .int (1))), some (.invokevirtual 134, 3, (1, [(11, 136)], .ref 96)), none, none, some (.istore 5, 2, (0, [], .null)), none, some (.iload 5, 2, (0, [], .null)), none, some (.ifCond .ne 12, 3, (54, [], .null)), none, none, some (.aload_n 0, 1, (0, [], .null)), some (.iload_n 2, 1, (0, [], .null)), some (.iconst 1, 1, (0, [], .int (1))), some (.invokevirtual 134, 3, (1, [(11, 136)], .ref 96)), none, none, some (.goto 5, 3, (56, [], .null)), none, none, some (.iload 5, 2, (0, [], .null)), none, some (.istore 5, 2, (0, [], .null)), none, some (.iload 5, 2, (0, [], .null)), none, some (.ifCond .eq 8, 3, (68, [], .null)), none, none, some (.iload 5, 2, (0, [], .null)), none, some (.goto 16, 3, (81, [], .null)), none, none, some (.aload_n 0, 1, (0, [], .null)), some (.aload_n 0, 1, (0, [], .null)), some (.iload_n 1, 1, (0, [], .null)), some (.iload_n 2, 1, (0, [], .null)), some (.iload_n 3, 1, (0, [], .null)), some (.iload 4, 2, (0, [], .null)), none, some (.invokevirtual 176, 3, (1, [(11, 157)], .ref 106)), none, none, some (.invokevirtual 75, 3, (1, [(11, 114)], .ref 83)), none, none, some (.ireturn, 1, (0, [], .null))]
/-- LonelyDotsModel.greatest(IIZ)I -/
def lk_b160 : List (Option lk_E) := [some (.iconst 0, 1, (0, [], .int (0))), some (.istore 4, 2, (0, [], .null)), none, some (.bipush (-16), 2, (0, [], .int (-16))), none, some (.istore 5, 2, (0, [], .null)), none, some (.iload 5, 2, (0, [], .null)), none, some (.bipush 17, 2, (0, [], .int (17))), none, some (.if_icmp .ge 72, 3, (83, [], .null)), none, none, some (.bipush (-16), 2, (0, [], .int (-16))), none, some (.istore 6, 2, (0, [], .null)), none, some (.iload 6, 2, (0, [], .null)), none, some (.bipush 17, 2, (0, [], .int (17))), none, some (.if_icmp .ge 55, 3, (77, [], .null)), none, none, some (.iload_n 3, 1, (0, [], .null)), some (.ifCond .eq 17, 3, (43, [], .null)), none, none, some (.iload 5, 2, (0, [], .null)), none, some (.ifCond .ne 12, 3, (43, [], .null)), none, none, some (.iload 6, 2, (0, [], .null)), none, some (.ifCond .ne 7, 3, (43, [], .null)), none, none, some (.iconst 0, 1, (0, [], .int (0))), some (.goto 13, 3, (53, [], .null)), none, none, some (.aload_n 0, 1, (0, [], .null)), some (.iload_n 1, 1, (0, [], .null)), some (.iload_n 2, 1, (0, [], .null)), some (.iload 5, 2, (0, [], .null)), none, some (.iload 6, 2, (0, [], .null)), none, some (.invokevirtual 176, 3, (1, [(11, 157)], .ref 106)), none, none, some (.istore 7, 2, (0, [], .null)), none, some (.iload 7, 2, (0, [], .null)), none, some (.iload 4, 2, (0, [], .null)), none, some (.if_icmp .le 8, 3, (67, [], .null)), none, none, some (.iload 7, 2, (0, [], .null)), none, some (.goto 5, 3, (69, [], .null)), none, none, some (.iload 4, 2, (0, [], .null)), none, some (.istore 4, 2, (0, [], .null)), none, some (.iinc 6 1, 3, (0, [], .int (1))), none, none, some (.goto (-56), 3, (18, [], .null)), none, none, some (.iinc 5 1, 3, (0, [], .int (1))), none, none, some (.goto (-73), 3, (7, [], .null)), none, none, some (.iload 4, 2, (0, [], .null)), none, some (.ireturn, 1, (0, [], .null))]
/-- LonelyDotsModel.most(I)I -/
def lk_b161 : List (Option lk_E) := [some (.iload_n 1, 1, (0, [], .null)), some (.invokestatic 100, 3, (0, [(0, 120)], .ref 89)), none, none, some (.ifCond .ne 6, 3, (10, [], .null)), none, none, some (.ldc 70, 2, (0, [], .int (-1000001))), none, some (.ireturn, 1, (0, [], .null)), some (.aload_n 0, 1, (0, [], .null)), some (.iload_n 1, 1, (0, [], .null)), some (.iconst 1, 1, (0, [], .int (1))), some (.invokevirtual 134, 3, (1, [(11, 136)], .ref 96)), none, none, some (.istore_n 2, 1, (0, [], .null)), some (.iload_n 2, 1, (0, [], .null)), some (.ifCond .eq 7, 3, (25, [], .null)), none, none, some (.iload_n 2, 1, (0, [], .null)), some (.goto 14, 3, (36, [], .null)), none, none, some (.aload_n 0, 1, (0, [], .null)), some (.aload_n 0, 1, (0, [], .null)), some (.iload_n 1, 1, (0, [], .null)), some (.iload_n 1, 1, (0, [], .null)), some (.iconst 1, 1, (0, [], .int (1))), some (.invokevirtual 180, 3, (1, [(11, 160)], .ref 107)), none, none, some (.invokevirtual 75, 3, (1, [(11, 114)], .ref 83)), none, none, some (.ireturn, 1, (0, [], .null))]
/-- LonelyDotsModel.together(II)I -/
def lk_b162 : List (Option lk_E) := [some (.iload_n 1, 1, (0, [], .null)), some (.invokestatic 100, 3, (0, [(0, 120)], .ref 89)), none, none, some (.ifCond .eq 10, 3, (14, [], .null)), none, none, some (.iload_n 2, 1, (0, [], .null)), some (.invokestatic 100, 3, (0, [(0, 120)], .ref 89)), none, none, some (.ifCond .ne 6, 3, (17, [], .null)), none, none, some (.ldc 70, 2, (0, [], .int (-1000001))), none, some (.ireturn, 1, (0, [], .null)), some (.aload_n 0, 1, (0, [], .null)), some (.iload_n 1, 1, (0, [], .null)), some (.iconst 1, 1, (0, [], .int (1))), some (.invokevirtual 134, 3, (1, [(11, 136)], .ref 96)), none, none, some (.istore_n 3, 1, (0, [], .null)), some (.iload_n 3, 1, (0, [], .null)), some (.ifCond .ne 12, 3, (37, [], .null)), none, none, some (.aload_n 0, 1, (0, [], .null)), some (.iload_n 2, 1, (0, [], .null)), some (.iconst 1, 1, (0, [], .int (1))), some (.invokevirtual 134, 3, (1, [(11, 136)], .ref 96)), none, none, some (.goto 4, 3, (38, [], .null)), none, none, some (.iload_n 3, 1, (0, [], .null)), some (.istore_n 3, 1, (0, [], .null)), some (.iload_n 3, 1, (0, [], .null)), some (.ifCond .eq 7, 3, (47, [], .null)), none, none, some (.iload_n 3, 1, (0, [], .null)), some (.goto 14, 3, (58, [], .null)), none, none, some (.aload_n 0, 1, (0, [], .null)), some (.aload_n 0, 1, (0, [], .null)), some (.iload_n 1, 1, (0, [], .null)), some (.iload_n 2, 1, (0, [], .null)), some (.iconst 0, 1, (0, [], .int (0))), some (.invokevirtual 180, 3, (1, [(11, 160)], .ref 107)), none, none, some (.invokevirtual 75, 3, (1, [(11, 114)], .ref 83)), none, none, some (.ireturn, 1, (0, [], .null))]
/-- LonelyDotsModel.echo(IIIII)I -/
def lk_b163 : List (Option lk_E) := [some (.iload_n 1, 1, (0, [], .null)), some (.invokestatic 100, 3, (0, [(0, 120)], .ref 89)), none, none, some (.ifCond .eq 36, 3, (40, [], .null)), none, none, some (.iload_n 2, 1, (0, [], .null)), some (.invokestatic 64, 3, (0, [(0, 115)], .ref 81)), none, none, some (.ifCond .eq 29, 3, (40, [], .null)), none, none, some (.iload 4, 2, (0, [], .null)), none, some (.i2l, 1, (0, [], .null)), some (.lconst 1, 1, (0, [], .long 1)), some (.ldc2_w 184, 3, (0, [], .long (30))), none, none, some (.invokestatic 60, 3, (0, [(0, 112)], .ref 80)), none, none, some (.ifCond .eq 16, 3, (40, [], .null)), none, none, some (.iload 5, 2, (0, [], .null)), none, some (.i2l, 1, (0, [], .null)), some (.lconst 0, 1, (0, [], .long 0)), some (.ldc2_w 68, 3, (0, [], .long (2))), none, none, some (.invokestatic 60, 3, (0, [(0, 112)], .ref 80)), none, none, some (.ifCond .ne 6, 3, (43, [], .null)), none, none, some (.ldc 70, 2, (0, [], .int (-1000001))), none, some (.ireturn, 1, (0, [], .null)), some (.aload_n 0, 1, (0, [], .null)), some (.iload_n 1, 1, (0, [], .null)), some (.iconst 1, 1, (0, [], .int (1))), some (.invokevirtual 134, 3, (1, [(11, 136)], .ref 96)), none, none, some (.istore 6, 2, (0, [], .null)), none, some (.iload 6, 2, (0, [], .null)), none, some (.ifCond .eq 6, 3, (59, [], .null)), none, none, some (.iload 6, 2, (0, [], .null)), none, some (.ireturn, 1, (0, [], .null)), some (.aload_n 0, 1, (0, [], .null)), some (.getfield 7, 3, (0, [(11, 0)], .null)), none, none, some (.iload_n 2, 1, (0, [], .null)), some (.iaload, 1, (0, [], .null)), some (.ifCond .ne 9, 3, (74, [], .null)), none, none, some (.aload_n 0, 1, (0, [], .null)), some (.iconst 1, 1, (0, [], .int (1))), some (.invokevirtual 71, 3, (1, [(11, 113)], .ref 82)), none, none, some (.ireturn, 1, (0, [], .null)), some (.iload_n 3, 1, (0, [], .null)), some (.ifCond .lt 24, 3, (99, [], .null)), none, none, some (.iload_n 3, 1, (0, [], .null)), some (.i2l, 1, (0, [], .null)), some (.ldc2_w 68, 3, (0, [], .long (2))), none, none, some (.iload 4, 2, (0, [], .null)), none, some (.i2l, 1, (0, [], .null)), some (.lmul, 1, (0, [], .null)), some (.ladd, 1, (0, [], .null)), some (.aload_n 0, 1, (0, [], .null)), some (.getfield 13, 3, (1, [(11, 0)], .null)), none, none, some (.iload_n 2, 1, (0, [], .null)), some (.iaload, 1, (0, [], .null)), some (.i2l, 1, (0, [], .null)), some (.lcmp, 1, (0, [], .null)), some (.ifCond .le 9, 3, (105, [], .null)), none, none, some (.aload_n 0, 1, (0, [], .null)), some (.iconst 2, 1, (0, [], .int (2))), some (.invokevirtual 71, 3, (1, [(11, 113)], .ref 82)), none, none, some (.ireturn, 1, (0, [], .null)), some (.iconst (-1), 1, (0, [], .int (-1))), some (.istore 7, 2, (0, [], .null)), none, some (.iconst 0, 1, (0, [], .int (0))), some (.istore 8, 2, (0, [], .null)), none, some (.iconst 0, 1, (0, [], .int (0))), some (.istore 9, 2, (0, [], .null)), none, some (.iconst 0, 1, (0, [], .int (0))), some (.istore 10, 2, (0, [], .null)), none, some (.iload 10, 2, (0, [], .null)), none, some (.bipush 21, 2, (0, [], .int (21))), none, some (.if_icmp .ge 154, 3, (275, [], .null)), none, none, some (.iconst 0, 1, (0, [], .int (0))), some (.istore 11, 2, (0, [], .null)), none, some (.iload 11, 2, (0, [], .null)), none, some (.bipush 21, 2, (0, [], .int (21))), none, some (.if_icmp .ge 138, 3, (269, [], .null)), none, none, some (.iconst 0, 1, (0, [], .int (0))), some (.istore 12, 2, (0, [], .null)), none, some (.iconst 0, 1, (0, [], .int (0))), some (.istore 13, 2, (0, [], .null)), none, some (.iload 13, 2, (0, [], .null)), none, some (.iload 4, 2, (0, [], .null)), none, some (.if_icmp .ge 100, 3, (244, [], .null)), none, none, some (.aload_n 0, 1, (0, [], .null)), some (.getfield 16, 3, (2, [(11, 0)], .null)), none, none, some (.bipush 60, 2, (0, [], .int (60))), none, some (.iload_n 2, 1, (0, [], .null)), some (.imul, 1, (0, [], .null)), some (.iload_n 3, 1, (0, [], .null)), some (.iadd, 1, (0, [], .null)), some (.iconst 2, 1, (0, [], .int (2))), some (.iload 13, 2, (0, [], .null)), none, some (.imul, 1, (0, [], .null)), some (.iadd, 1, (0, [], .null)), some (.iaload, 1, (0, [], .null)), some (.i2l, 1, (0, [], .null)), some (.iload 10, 2, (0, [], .null)), none, some (.i2l, 1, (0, [], .null)), some (.lsub, 1, (0, [], .null)), some (.lstore 14, 2, (0, [], .null)), none, some (.aload_n 0, 1, (0, [], .null)), some (.getfield 16, 3, (2, [(11, 0)], .null)), none, none, some (.bipush 60, 2, (0, [], .int (60))), none, some (.iload_n 2, 1, (0, [], .null)), some (.imul, 1, (0, [], .null)), some (.iload_n 3, 1, (0, [], .null)), some (.iadd, 1, (0, [], .null)), some (.iconst 2, 1, (0, [], .int (2))), some (.iload 13, 2, (0, [], .null)), none, some (.imul, 1, (0, [], .null)), some (.iadd, 1, (0, [], .null)), some (.iconst 1, 1, (0, [], .int (1))), some (.iadd, 1, (0, [], .null)), some (.iaload, 1, (0, [], .null)), some (.i2l, 1, (0, [], .null)), some (.iload 11, 2, (0, [], .null)), none, some (.i2l, 1, (0, [], .null)), some (.lsub, 1, (0, [], .null)), some (.lstore 16, 2, (0, [], .null)), none, some (.iload 12, 2, (0, [], .null)), none, some (.lload 14, 2, (0, [], .null)), none, some (.lconst 0, 1, (0, [], .long 0)), some (.aload_n 0, 1, (0, [], .null)), some (.getfield 25, 3, (5, [(11, 0)], .null)), none, none, some (.iload_n 1, 1, (0, [], .null)), some (.iaload, 1, (0, [], .null)), some (.i2l, 1, (0, [], .null)), some (.lconst 1, 1, (0, [], .long 1)), some (.lsub, 1, (0, [], .null)), some (.invokestatic 60, 3, (0, [(0, 112)], .ref 80)), none, none, some (.ifCond .eq 22, 3, (234, [], .null)), none, none, some (.aload_n 0, 1, (0, [], .null)), some (.iload_n 1, 1, (0, [], .null)), some (.lload 14, 2, (0, [], .null)), none, some (.l2i, 1, (0, [], .null)), some (.invokevirtual 80, 3, (1, [(11, 122)], .ref 84)), none, none, some (.i2l, 1, (0, [], .null)), some (.lload 16, 2, (0, [], .null)), none, some (.lcmp, 1, (0, [], .null)), some (.ifCond .ne 7, 3, (234, [], .null)), none, none, some (.iconst 1, 1, (0, [], .int (1))), some (.goto 4, 3, (235, [], .null)), none, none, some (.iconst 0, 1, (0, [], .int (0))), some (.iadd, 1, (0, [], .null)), some (.istore 12, 2, (0, [], .null)), none, some (.iinc 13 1, 3, (0, [], .int (1))), none, none, some (.goto (-101), 3, (140, [], .null)), none, none, some (.iload 12, 2, (0, [], .null)), none, some (.iload 7, 2, (0, [], .null)), none, some (.if_icmp .le 15, 3, (263, [], .null)), none, none, some (.iload 12, 2, (0, [], .null)), none, some (.istore 7, 2, (0, [], .null)), none, some (.iload 10, 2, (0, [], .null)), none, some (.istore 8, 2, (0, [], .null)), none, some (.iload 11, 2, (0, [], .null)), none, some (.istore 9, 2, (0, [], .null)), none, some (.iinc 11 1, 3, (0, [], .int (1))), none, none, some (.goto (-139), 3, (127, [], .null)), none, none, some (.iinc 10 1, 3, (0, [], .int (1))), none, none, some (.goto (-155), 3, (117, [], .null)), none, none, some (.aload_n 0, 1, (0, [], .null)), some (.iload 5, 2, (0, [], .null)), none, some (.ifCond .ne 8, 3, (286, [], .null)), none, none, some (.iload 8, 2, (0, [], .null)), none, some (.goto 16, 3, (299, [], .null)), none, none, some (.iload 5, 2, (0, [], .null)), none, some (.iconst 1, 1, (0, [], .int (1))), some (.if_icmp .ne 8, 3, (297, [], .null)), none, none, some (.iload 9, 2, (0, [], .null)), none, some (.goto 5, 3, (299, [], .null)), none, none, some (.iload 7, 2, (0, [], .null)), none, some (.invokevirtual 75, 3, (1, [(11, 114)], .ref 83)), none, none, some (.ireturn, 1, (0, [], .null))]
/-- LonelyDotsModel.isLeast()Z -/
def lk_b164 : List (Option lk_E) := [some (.iconst 1, 1, (0, [], .int (1))), some (.istore_n 1, 1, (0, [], .null)), some (.iload_n 1, 1, (0, [], .null)), some (.bipush 8, 2, (0, [], .int (8))), none, some (.if_icmp .ge 57, 3, (62, [], .null)), none, none, some (.iconst 0, 1, (0, [], .int (0))), some (.istore_n 2, 1, (0, [], .null)), some (.iconst 0, 1, (0, [], .int (0))), some (.istore_n 3, 1, (0, [], .null)), some (.iload_n 3, 1, (0, [], .null)), some (.aload_n 0, 1, (0, [], .null)), some (.getfield 25, 3, (5, [(11, 0)], .null)), none, none, some (.bipush 10, 2, (0, [], .int (10))), none, some (.iaload, 1, (0, [], .null)), some (.if_icmp .ge 30, 3, (50, [], .null)), none, none, some (.iload_n 2, 1, (0, [], .null)), some (.ifCond .ne 26, 3, (50, [], .null)), none, none, some (.aload_n 0, 1, (0, [], .null)), some (.bipush 10, 2, (0, [], .int (10))), none, some (.iload_n 1, 1, (0, [], .null)), some (.iload_n 3, 1, (0, [], .null)), some (.invokevirtual 141, 3, (1, [(11, 139)], .ref 98)), none, none, some (.aload_n 0, 1, (0, [], .null)), some (.bipush 10, 2, (0, [], .int (10))), none, some (.iload_n 3, 1, (0, [], .null)), some (.invokevirtual 80, 3, (1, [(11, 122)], .ref 84)), none, none, some (.isub, 1, (0, [], .null)), some (.istore_n 2, 1, (0, [], .null)), some (.iinc 3 1, 3, (0, [], .int (1))), none, none, some (.goto (-35), 3, (12, [], .null)), none, none, some (.iload_n 2, 1, (0, [], .null)), some (.ifCond .ge 5, 3, (56, [], .null)), none, none, some (.iconst 0, 1, (0, [], .int (0))), some (.ireturn, 1, (0, [], .null)), some (.iinc 1 1, 3, (0, [], .int (1))), none, none, some (.goto (-57), 3, (2, [], .null)), none, none, some (.iconst 1, 1, (0, [], .int (1))), some (.ireturn, 1, (0, [], .null))]
/-- LonelyDotsModel.lonely(II)I -/
def lk_b165 : List (Option lk_E) := [some (.iload_n 1, 1, (0, [], .null)), some (.i2l, 1, (0, [], .null)), some (.lconst 1, 1, (0, [], .long 1)), some (.ldc2_w 58, 3, (0, [], .long (7))), none, none, some (.invokestatic 60, 3, (0, [(0, 112)], .ref 80)), none, none, some (.ifCond .eq 13, 3, (22, [], .null)), none, none, some (.iload_n 2, 1, (0, [], .null)), some (.i2l, 1, (0, [], .null)), some (.lconst 0, 1, (0, [], .long 0)), some (.lconst 1, 1, (0, [], .long 1)), some (.invokestatic 60, 3, (0, [(0, 112)], .ref 80)), none, none, some (.ifCond .ne 6, 3, (25, [], .null)), none, none, some (.ldc 70, 2, (0, [], .int (-1000001))), none, some (.ireturn, 1, (0, [], .null)), some (.aload_n 0, 1, (0, [], .null)), some (.getfield 41, 3, (12, [(11, 0)], .null)), none, none, some (.iload_n 1, 1, (0, [], .null)), some (.iaload, 1, (0, [], .null)), some (.ifCond .ne 63, 3, (94, [], .null)), none, none, some (.aload_n 0, 1, (0, [], .null)), some (.iload_n 1, 1, (0, [], .null)), some (.invokevirtual 144, 3, (1, [(11, 142)], .ref 99)), none, none, some (.iconst 1, 1, (0, [], .int (1))), some (.istore_n 3, 1, (0, [], .null)), some (.iload_n 3, 1, (0, [], .null)), some (.ifCond .eq 52, 3, (94, [], .null)), none, none, some (.aload_n 0, 1, (0, [], .null)), some (.bipush 10, 2, (0, [], .int (10))), none, some (.iconst 1, 1, (0, [], .int (1))), some (.invokevirtual 89, 3, (1, [(11, 124)], .ref 86)), none, none, some (.ifCond .ne 34, 3, (86, [], .null)), none, none, some (.aload_n 0, 1, (0, [], .null)), some (.getfield 41, 3, (12, [(11, 0)], .null)), none, none, some (.iload_n 1, 1, (0, [], .null)), some (.dup2, 1, (0, [], .null)), some (.iaload, 1, (0, [], .null)), some (.iconst 1, 1, (0, [], .int (1))), some (.iadd, 1, (0, [], .null)), some (.iastore, 1, (0, [], .null)), some (.aload_n 0, 1, (0, [], .null)), some (.getfield 44, 3, (13, [(11, 0)], .null)), none, none, some (.iload_n 1, 1, (0, [], .null)), some (.dup2, 1, (0, [], .null)), some (.iaload, 1, (0, [], .null)), some (.aload_n 0, 1, (0, [], .null)), some (.invokevirtual 186, 3, (1, [(11, 164)], .ref 108)), none, none, some (.ifCond .eq 7, 3, (83, [], .null)), none, none, some (.iconst 1, 1, (0, [], .int (1))), some (.goto 4, 3, (84, [], .null)), none, none, some (.iconst 0, 1, (0, [], .int (0))), some (.iadd, 1, (0, [], .null)), some (.iastore, 1, (0, [], .null)), some (.aload_n 0, 1, (0, [], .null)), some (.invokevirtual 148, 3, (1, [(11, 143)], .ref 100)), none, none, some (.istore_n 3, 1, (0, [], .null)), some (.goto (-50), 3, (41, [], .null)), none, none, some (.iload_n 2, 1, (0, [], .null)), some (.ifCond .ne 12, 3, (107, [], .null)), none, none, some (.aload_n 0, 1, (0, [], .null)), some (.getfield 41, 3, (12, [(11, 0)], .null)), none, none, some (.iload_n 1, 1, (0, [], .null)), some (.iaload, 1, (0, [], .null)), some (.goto 9, 3, (113, [], .null)), none, none, some (.aload_n 0, 1, (0, [], .null)), some (.getfield 44, 3, (13, [(11, 0)], .null)), none, none, some (.iload_n 1, 1, (0, [], .null)), some (.iaload, 1, (0, [], .null)), some (.ireturn, 1, (0, [], .null))]
/-- LonelyDotsModel.canBe(II)Z -/
def lk_b166 : List (Option lk_E) := [some (.iconst 0, 1, (0, [], .int (0))), some (.istore_n 3, 1, (0, [], .null)), some (.aload_n 0, 1, (0, [], .null)), some (.getfield 50, 3, (16, [(11, 0)], .null)), none, none, some (.iconst 0, 1, (0, [], .int (0))), some (.iconst 0, 1, (0, [], .int (0))), some (.iastore, 1, (0, [], .null)), some (.iload_n 3, 1, (0, [], .null)), some (.ifCond .lt 169, 3, (179, [], .null)), none, none, some (.iconst 1, 1, (0, [], .int (1))), some (.istore 4, 2, (0, [], .null)), none, some (.iconst 0, 1, (0, [], .int (0))), some (.istore 5, 2, (0, [], .null)), none, some (.iload 5, 2, (0, [], .null)), none, some (.iload_n 3, 1, (0, [], .null)), some (.if_icmp .gt 27, 3, (49, [], .null)), none, none, some (.iload 4, 2, (0, [], .null)), none, some (.ifCond .eq 22, 3, (49, [], .null)), none, none, some (.aload_n 0, 1, (0, [], .null)), some (.iload 5, 2, (0, [], .null)), none, some (.aload_n 0, 1, (0, [], .null)), some (.getfield 50, 3, (16, [(11, 0)], .null)), none, none, some (.iload 5, 2, (0, [], .null)), none, some (.iaload, 1, (0, [], .null)), some (.invokevirtual 105, 3, (1, [(11, 128)], .ref 90)), none, none, some (.iinc 5 1, 3, (0, [], .int (1))), none, none, some (.goto (-27), 3, (19, [], .null)), none, none, some (.aload_n 0, 1, (0, [], .null)), some (.getfield 25, 3, (5, [(11, 0)], .null)), none, none, some (.bipush 10, 2, (0, [], .int (10))), none, some (.iload_n 3, 1, (0, [], .null)), some (.iconst 1, 1, (0, [], .int (1))), some (.iadd, 1, (0, [], .null)), some (.iastore, 1, (0, [], .null)), some (.aload_n 0, 1, (0, [], .null)), some (.getfield 50, 3, (16, [(11, 0)], .null)), none, none, some (.iload_n 3, 1, (0, [], .null)), some (.iaload, 1, (0, [], .null)), some (.iload_n 2, 1, (0, [], .null)), some (.if_icmp .gt 17, 3, (83, [], .null)), none, none, some (.aload_n 0, 1, (0, [], .null)), some (.bipush 10, 2, (0, [], .int (10))), none, some (.iconst 0, 1, (0, [], .int (0))), some (.invokevirtual 89, 3, (1, [(11, 124)], .ref 86)), none, none, some (.ifCond .ne 7, 3, (83, [], .null)), none, none, some (.iconst 1, 1, (0, [], .int (1))), some (.goto 4, 3, (84, [], .null)), none, none, some (.iconst 0, 1, (0, [], .int (0))), some (.istore 4, 2, (0, [], .null)), none, some (.iload 4, 2, (0, [], .null)), none, some (.ifCond .eq 12, 3, (100, [], .null)), none, none, some (.iload_n 3, 1, (0, [], .null)), some (.iload_n 1, 1, (0, [], .null)), some (.iconst 1, 1, (0, [], .int (1))), some (.isub, 1, (0, [], .null)), some (.if_icmp .ne 5, 3, (100, [], .null)), none, none, some (.iconst 1, 1, (0, [], .int (1))), some (.ireturn, 1, (0, [], .null)), some (.iload 4, 2, (0, [], .null)), none, some (.ifCond .eq 25, 3, (127, [], .null)), none, none, some (.iinc 3 1, 3, (0, [], .int (1))), none, none, some (.aload_n 0, 1, (0, [], .null)), some (.getfield 50, 3, (16, [(11, 0)], .null)), none, none, some (.iload_n 3, 1, (0, [], .null)), some (.aload_n 0, 1, (0, [], .null)), some (.getfield 50, 3, (16, [(11, 0)], .null)), none, none, some (.iload_n 3, 1, (0, [], .null)), some (.iconst 1, 1, (0, [], .int (1))), some (.isub, 1, (0, [], .null)), some (.iaload, 1, (0, [], .null)), some (.iconst 1, 1, (0, [], .int (1))), some (.iadd, 1, (0, [], .null)), some (.iastore, 1, (0, [], .null)), some (.goto 52, 3, (176, [], .null)), none, none, some (.aload_n 0, 1, (0, [], .null)), some (.getfield 50, 3, (16, [(11, 0)], .null)), none, none, some (.iload_n 3, 1, (0, [], .null)), some (.iaload, 1, (0, [], .null)), some (.iload_n 2, 1, (0, [], .null)), some (.if_icmp .gt 7, 3, (141, [], .null)), none, none, some (.iload_n 3, 1, (0, [], .null)), some (.ifCond .ne 28, 3, (166, [], .null)), none, none, some (.iinc 3 (-1), 3, (0, [], .int (-1))), none, none, some (.iload_n 3, 1, (0, [], .null)), some (.ifCond .le 16, 3, (161, [], .null)), none, none, some (.aload_n 0, 1, (0, [], .null)), some (.getfield 50, 3, (16, [(11, 0)], .null)), none, none, some (.iload_n 3, 1, (0, [], .null)), some (.dup2, 1, (0, [], .null)), some (.iaload, 1, (0, [], .null)), some (.iconst 1, 1, (0, [], .int (1))), some (.iadd, 1, (0, [], .null)), some (.iastore, 1, (0, [], .null)), some (.goto 18, 3, (176, [], .null)), none, none, some (.iconst (-1), 1, (0, [], .int (-1))), some (.istore_n 3, 1, (0, [], .null)), some (.goto 13, 3, (176, [], .null)), none, none, some (.aload_n 0, 1, (0, [], .null)), some (.getfield 50, 3, (16, [(11, 0)], .null)), none, none, some (.iload_n 3, 1, (0, [], .null)), some (.dup2, 1, (0, [], .null)), some (.iaload, 1, (0, [], .null)), some (.iconst 1, 1, (0, [], .int (1))), some (.iadd, 1, (0, [], .null)), some (.iastore, 1, (0, [], .null)), some (.goto (-167), 3, (9, [], .null)), none, none, some (.iconst 0, 1, (0, [], .int (0))), some (.ireturn, 1, (0, [], .null))]
/-- LonelyDotsModel.shortest(I)I -/
def lk_b167 : List (Option lk_E) := [some (.iload_n 1, 1, (0, [], .null)), some (.i2l, 1, (0, [], .null)), some (.lconst 1, 1, (0, [], .long 1)), some (.ldc2_w 189, 3, (0, [], .long (6))), none, none, some (.invokestatic 60, 3, (0, [(0, 112)], .ref 80)), none, none, some (.ifCond .ne 6, 3, (15, [], .null)), none, none, some (.ldc 70, 2, (0, [], .int (-1000001))), none, some (.ireturn, 1, (0, [], .null)), some (.aload_n 0, 1, (0, [], .null)), some (.getfield 191, 3, (14, [(11, 0)], .null)), none, none, some (.iload_n 1, 1, (0, [], .null)), some (.ishr, 1, (0, [], .null)), some (.iconst 1, 1, (0, [], .int (1))), some (.iand, 1, (0, [], .null)), some (.ifCond .ne 39, 3, (62, [], .null)), none, none, some (.aload_n 0, 1, (0, [], .null)), some (.dup, 1, (0, [], .null)), some (.getfield 191, 3, (14, [(11, 0)], .null)), none, none, some (.iconst 1, 1, (0, [], .int (1))), some (.iload_n 1, 1, (0, [], .null)), some (.ishl, 1, (0, [], .null)), some (.ior, 1, (0, [], .null)), some (.putfield 191, 3, (14, [(11, 0)], .null)), none, none, some (.iconst 0, 1, (0, [], .int (0))), some (.istore_n 2, 1, (0, [], .null)), some (.aload_n 0, 1, (0, [], .null)), some (.iload_n 1, 1, (0, [], .null)), some (.iload_n 2, 1, (0, [], .null)), some (.invokevirtual 194, 3, (1, [(11, 166)], .ref 109)), none, none, some (.ifCond .ne 9, 3, (55, [], .null)), none, none, some (.iinc 2 1, 3, (0, [], .int (1))), none, none, some (.goto (-12), 3, (40, [], .null)), none, none, some (.aload_n 0, 1, (0, [], .null)), some (.getfield 47, 3, (15, [(11, 0)], .null)), none, none, some (.iload_n 1, 1, (0, [], .null)), some (.iload_n 2, 1, (0, [], .null)), some (.iastore, 1, (0, [], .null)), some (.aload_n 0, 1, (0, [], .null)), some (.getfield 47, 3, (15, [(11, 0)], .null)), none, none, some (.iload_n 1, 1, (0, [], .null)), some (.iaload, 1, (0, [], .null)), some (.ireturn, 1, (0, [], .null))]
/-- LonelyDotsModel.count(I)I -/
def lk_b168 : List (Option lk_E) := [some (.iload_n 1, 1, (0, [], .null)), some (.i2l, 1, (0, [], .null)), some (.lconst 0, 1, (0, [], .long 0)), some (.ldc2_w 152, 3, (0, [], .long (5))), none, none, some (.invokestatic 60, 3, (0, [(0, 112)], .ref 80)), none, none, some (.ifCond .ne 6, 3, (15, [], .null)), none, none, some (.ldc 70, 2, (0, [], .int (-1000001))), none, some (.ireturn, 1, (0, [], .null)), some (.iconst 0, 1, (0, [], .int (0))), some (.istore_n 2, 1, (0, [], .null)), some (.iconst 0, 1, (0, [], .int (0))), some (.istore_n 3, 1, (0, [], .null)), some (.iload_n 3, 1, (0, [], .null)), some (.bipush 8, 2, (0, [], .int (8))), none, some (.if_icmp .ge 30, 3, (52, [], .null)), none, none, some (.iload_n 1, 1, (0, [], .null)), some (.ifCond .ne 26, 3, (52, [], .null)), none, none, some (.iload_n 2, 1, (0, [], .null)), some (.aload_n 0, 1, (0, [], .null)), some (.getfield 7, 3, (0, [(11, 0)], .null)), none, none, some (.iload_n 3, 1, (0, [], .null)), some (.iaload, 1, (0, [], .null)), some (.ifCond .le 7, 3, (43, [], .null)), none, none, some (.iconst 1, 1, (0, [], .int (1))), some (.goto 4, 3, (44, [], .null)), none, none, some (.iconst 0, 1, (0, [], .int (0))), some (.iadd, 1, (0, [], .null)), some (.istore_n 2, 1, (0, [], .null)), some (.iinc 3 1, 3, (0, [], .int (1))), none, none, some (.goto (-30), 3, (19, [], .null)), none, none, some (.iconst 0, 1, (0, [], .int (0))), some (.istore_n 3, 1, (0, [], .null)), some (.iload_n 3, 1, (0, [], .null)), some (.bipush 10, 2, (0, [], .int (10))), none, some (.if_icmp .ge 45, 3, (102, [], .null)), none, none, some (.iload_n 1, 1, (0, [], .null)), some (.ifCond .le 41, 3, (102, [], .null)), none, none, some (.iload_n 2, 1, (0, [], .null)), some (.aload_n 0, 1, (0, [], .null)), some (.getfield 22, 3, (4, [(11, 0)], .null)), none, none, some (.iload_n 3, 1, (0, [], .null)), some (.iaload, 1, (0, [], .null)), some (.ifCond .le 22, 3, (93, [], .null)), none, none, some (.aload_n 0, 1, (0, [], .null)), some (.getfield 22, 3, (4, [(11, 0)], .null)), none, none, some (.iload_n 3, 1, (0, [], .null)), some (.iaload, 1, (0, [], .null)), some (.iload_n 1, 1, (0, [], .null)), some (.iconst 1, 1, (0, [], .int (1))), some (.isub, 1, (0, [], .null)), some (.invokestatic 129, 3, (0, [(0, 121)], .ref 95)), none, none, some (.ifCond .eq 7, 3, (93, [], .null)), none, none, some (.iconst 1, 1, (0, [], .int (1))), some (.goto 4, 3, (94, [], .null)), none, none, some (.iconst 0, 1, (0, [], .int (0))), some (.iadd, 1, (0, [], .null)), some (.istore_n 2, 1, (0, [], .null)), some (.iinc 3 1, 3, (0, [], .int (1))), none, none, some (.goto (-45), 3, (54, [], .null)), none, none, some (.iload_n 2, 1, (0, [], .null)), some (.ireturn, 1, (0, [], .null))]
/-- LonelyDotsModel.status()I -/
def lk_b169 : List (Option lk_E) := [some (.aload_n 0, 1, (0, [], .null)), some (.getfield 53, 3, (7, [(11, 0)], .null)), none, none, some (.ireturn, 1, (0, [], .null))]
/-- java/util/Arrays.fill([II)V -/
def lk_b170 : List (Option lk_E) := [some (.iconst 0, 1, (0, [], .int (0))), some (.istore_n 2, 1, (0, [], .null)), some (.aload_n 0, 1, (0, [], .null)), some (.arraylength, 1, (0, [], .null)), some (.istore_n 3, 1, (0, [], .null)), some (.iload_n 2, 1, (0, [], .null)), some (.iload_n 3, 1, (0, [], .null)), some (.if_icmp .ge 13, 3, (20, [], .null)), none, none, some (.aload_n 0, 1, (0, [], .null)), some (.iload_n 2, 1, (0, [], .null)), some (.iload_n 1, 1, (0, [], .null)), some (.iastore, 1, (0, [], .null)), some (.iinc 2 1, 3, (0, [], .int (1))), none, none, some (.goto (-12), 3, (5, [], .null)), none, none, some (.return_, 1, (0, [], .null))]
/-- java/util/Arrays.checkLength(II)V -/
def lk_b171 : List (Option lk_E) := [some (.iload_n 1, 1, (0, [], .null)), some (.iload_n 0, 1, (0, [], .null)), some (.if_icmp .ge 35, 3, (37, [], .null)), none, none, none, none, none, some (.dup, 1, (0, [], .null)), none, none, none, some (.dup, 1, (0, [], .null)), none, none, none, some (.iload_n 0, 1, (0, [], .null)), none, none, none, none, none, none, none, none, none, some (.iload_n 1, 1, (0, [], .null)), none, none, none, none, none, none, none, none, none, none, some (.return_, 1, (0, [], .null))]
/-- java/util/Arrays.copyOfRange([III)[I -/
def lk_b172 : List (Option lk_E) := [some (.iload_n 1, 1, (0, [], .null)), some (.ifCond .ne 9, 3, (10, [], .null)), none, none, some (.iload_n 2, 1, (0, [], .null)), some (.aload_n 0, 1, (0, [], .null)), some (.arraylength, 1, (0, [], .null)), some (.if_icmp .eq 10, 3, (17, [], .null)), none, none, some (.aload_n 0, 1, (0, [], .null)), some (.iload_n 1, 1, (0, [], .null)), some (.iload_n 2, 1, (0, [], .null)), some (.invokestatic 351, 3, (0, [(0, 173)], .ref 110)), none, none, some (.areturn, 1, (0, [], .null)), some (.aload_n 0, 1, (0, [], .null)), none, none, none, none, none, none, some (.areturn, 1, (0, [], .null))]
/-- java/util/Arrays.copyOfRangeInt([III)[I -/
def lk_b173 : List (Option lk_E) := [some (.iload_n 1, 1, (0, [], .null)), some (.iload_n 2, 1, (0, [], .null)), some (.invokestatic 343, 3, (0, [(0, 171)], .ref 111)), none, none, some (.iload_n 2, 1, (0, [], .null)), some (.iload_n 1, 1, (0, [], .null)), some (.isub, 1, (0, [], .null)), some (.istore_n 3, 1, (0, [], .null)), some (.iload_n 3, 1, (0, [], .null)), some (.newarray .int, 2, (0, [], .null)), none, some (.astore 4, 2, (0, [], .null)), none, some (.aload_n 0, 1, (0, [], .null)), some (.iload_n 1, 1, (0, [], .null)), some (.aload 4, 2, (0, [], .null)), none, some (.iconst 0, 1, (0, [], .int (0))), some (.aload_n 0, 1, (0, [], .null)), some (.arraylength, 1, (0, [], .null)), some (.iload_n 1, 1, (0, [], .null)), some (.isub, 1, (0, [], .null)), some (.iload_n 3, 1, (0, [], .null)), some (.invokestatic 304, 3, (103, [], .null)), none, none, some (.invokestatic 150, 3, (101, [], .null)), none, none, some (.aload 4, 2, (0, [], .null)), none, some (.areturn, 1, (0, [], .null))]
/-- LonelyDotsLaw.law([I)Z -/
def lk_b174_0 : List (Option lk_E) := [some (.new 7, 3, (10, [], .null)), none, none, some (.dup, 1, (0, [], .null)), some (.invokespecial 9, 3, (3, [(0, 65)], .ref 112)), none, none, some (.astore_n 1, 1, (0, [], .null)), some (.new 10, 3, (11, [], .null)), none, none, some (.dup, 1, (0, [], .null)), some (.invokespecial 12, 3, (3, [(0, 111)], .ref 113)), none, none, some (.astore_n 2, 1, (0, [], .null)), some (.iconst 0, 1, (0, [], .int (0))), some (.istore_n 3, 1, (0, [], .null)), some (.iload_n 3, 1, (0, [], .null)), some (.aload_n 0, 1, (0, [], .null)), some (.arraylength, 1, (0, [], .null)), some (.bipush 6, 2, (0, [], .int (6))), none, some (.isub, 1, (0, [], .null)), some (.if_icmp .gt 1196, 3, (1220, [], .null)), none, none, some (.aload_n 0, 1, (0, [], .null)), some (.iload_n 3, 1, (0, [], .null)), some (.iaload, 1, (0, [], .null)), some (.bipush 31, 2, (0, [], .int (31))), none, some (.iand, 1, (0, [], .null)), some (.tableswitch 1181 0 27 #[127, 170, 213, 276, 299, 352, 405, 458, 511, 554, 597, 640, 683, 706, 729, 762, 795, 828, 851, 884, 917, 970, 993, 1026, 1089, 1122, 1145, 1168], 127, (1214, [(0, 160), (1, 203), (2, 246), (3, 309), (4, 332), (5, 385), (6, 438), (7, 491), (8, 544), (9, 587), (10, 630), (11, 673), (12, 716), (13, 739), (14, 762), (15, 795), (16, 828), (17, 861), (18, 884), (19, 917), (20, 950), (21, 1003), (22, 1026), (23, 1059), (24, 1122), (25, 1155), (26, 1178), (27, 1201)], .null)), none, none, none, none, none, none, none, none, none, none, none, none, none, none]
def lk_b174_1 : List (Option lk_E) := [none, none, none, none, none, none, none, none, none, none, none, none, none, none, none, none, none, none, none, none, none, none, none, none, none, none, none, none, none, none, none, none, none, none, none, none, none, none, none, none, none, none, none, none, none, none, none, none]
def lk_b174_2 : List (Option lk_E) := [none, none, none, none, none, none, none, none, none, none, none, none, none, none, none, none, none, none, none, none, none, none, none, none, none, none, none, none, none, none, none, none, none, none, none, none, none, none, none, none, none, none, none, none, none, none, none, none]
def lk_b174_3 : List (Option lk_E) := [none, none, none, none, none, none, none, none, none, none, none, none, none, none, none, none, some (.aload_n 1, 1, (0, [], .null)), some (.aload_n 0, 1, (0, [], .null)), some (.iload_n 3, 1, (0, [], .null)), some (.iconst 1, 1, (0, [], .int (1))), some (.iadd, 1, (0, [], .null)), some (.iaload, 1, (0, [], .null)), some (.aload_n 0, 1, (0, [], .null)), some (.iload_n 3, 1, (0, [], .null)), some (.iconst 2, 1, (0, [], .int (2))), some (.iadd, 1, (0, [], .null)), some (.iaload, 1, (0, [], .null)), some (.aload_n 0, 1, (0, [], .null)), some (.iload_n 3, 1, (0, [], .null)), some (.iconst 3, 1, (0, [], .int (3))), some (.iadd, 1, (0, [], .null)), some (.iaload, 1, (0, [], .null)), some (.invokevirtual 13, 3, (1, [(10, 66)], .ref 114)), none, none, some (.aload_n 2, 1, (0, [], .null)), some (.aload_n 0, 1, (0, [], .null)), some (.iload_n 3, 1, (0, [], .null)), some (.iconst 1, 1, (0, [], .int (1))), some (.iadd, 1, (0, [], .null)), some (.iaload, 1, (0, [], .null)), some (.aload_n 0, 1, (0, [], .null)), some (.iload_n 3, 1, (0, [], .null)), some (.iconst 2, 1, (0, [], .int (2))), some (.iadd, 1, (0, [], .null)), some (.iaload, 1, (0, [], .null)), some (.aload_n 0, 1, (0, [], .null)), some (.iload_n 3, 1, (0, [], .null))]
def lk_b174_4 : List (Option lk_E) := [some (.iconst 3, 1, (0, [], .int (3))), some (.iadd, 1, (0, [], .null)), some (.iaload, 1, (0, [], .null)), some (.invokevirtual 17, 3, (1, [(11, 116)], .ref 115)), none, none, some (.if_icmp .eq 1016, 3, (1214, [], .null)), none, none, some (.iconst 0, 1, (0, [], .int (0))), some (.ireturn, 1, (0, [], .null)), some (.aload_n 1, 1, (0, [], .null)), some (.aload_n 0, 1, (0, [], .null)), some (.iload_n 3, 1, (0, [], .null)), some (.iconst 1, 1, (0, [], .int (1))), some (.iadd, 1, (0, [], .null)), some (.iaload, 1, (0, [], .null)), some (.aload_n 0, 1, (0, [], .null)), some (.iload_n 3, 1, (0, [], .null)), some (.iconst 2, 1, (0, [], .int (2))), some (.iadd, 1, (0, [], .null)), some (.iaload, 1, (0, [], .null)), some (.aload_n 0, 1, (0, [], .null)), some (.iload_n 3, 1, (0, [], .null)), some (.iconst 3, 1, (0, [], .int (3))), some (.iadd, 1, (0, [], .null)), some (.iaload, 1, (0, [], .null)), some (.invokevirtual 18, 3, (1, [(10, 67)], .ref 116)), none, none, some (.aload_n 2, 1, (0, [], .null)), some (.aload_n 0, 1, (0, [], .null)), some (.iload_n 3, 1, (0, [], .null)), some (.iconst 1, 1, (0, [], .int (1))), some (.iadd, 1, (0, [], .null)), some (.iaload, 1, (0, [], .null)), some (.aload_n 0, 1, (0, [], .null)), some (.iload_n 3, 1, (0, [], .null)), some (.iconst 2, 1, (0, [], .int (2))), some (.iadd, 1, (0, [], .null)), some (.iaload, 1, (0, [], .null)), some (.aload_n 0, 1, (0, [], .null)), some (.iload_n 3, 1, (0, [], .null)), some (.iconst 3, 1, (0, [], .int (3))), some (.iadd, 1, (0, [], .null)), some (.iaload, 1, (0, [], .null)), some (.invokevirtual 21, 3, (1, [(11, 117)], .ref 117)), none]
def lk_b174_5 : List (Option lk_E) := [none, some (.if_icmp .eq 973, 3, (1214, [], .null)), none, none, some (.iconst 0, 1, (0, [], .int (0))), some (.ireturn, 1, (0, [], .null)), some (.aload_n 1, 1, (0, [], .null)), some (.aload_n 0, 1, (0, [], .null)), some (.iload_n 3, 1, (0, [], .null)), some (.iconst 1, 1, (0, [], .int (1))), some (.iadd, 1, (0, [], .null)), some (.iaload, 1, (0, [], .null)), some (.aload_n 0, 1, (0, [], .null)), some (.iload_n 3, 1, (0, [], .null)), some (.iconst 2, 1, (0, [], .int (2))), some (.iadd, 1, (0, [], .null)), some (.iaload, 1, (0, [], .null)), some (.aload_n 0, 1, (0, [], .null)), some (.iload_n 3, 1, (0, [], .null)), some (.iconst 3, 1, (0, [], .int (3))), some (.iadd, 1, (0, [], .null)), some (.iaload, 1, (0, [], .null)), some (.aload_n 0, 1, (0, [], .null)), some (.iload_n 3, 1, (0, [], .null)), some (.iconst 4, 1, (0, [], .int (4))), some (.iadd, 1, (0, [], .null)), some (.iaload, 1, (0, [], .null)), some (.aload_n 0, 1, (0, [], .null)), some (.iload_n 3, 1, (0, [], .null)), some (.iconst 5, 1, (0, [], .int (5))), some (.iadd, 1, (0, [], .null)), some (.iaload, 1, (0, [], .null)), some (.invokevirtual 22, 3, (1, [(10, 68)], .ref 118)), none, none, some (.aload_n 2, 1, (0, [], .null)), some (.aload_n 0, 1, (0, [], .null)), some (.iload_n 3, 1, (0, [], .null)), some (.iconst 1, 1, (0, [], .int (1))), some (.iadd, 1, (0, [], .null)), some (.iaload, 1, (0, [], .null)), some (.aload_n 0, 1, (0, [], .null)), some (.iload_n 3, 1, (0, [], .null)), some (.iconst 2, 1, (0, [], .int (2))), some (.iadd, 1, (0, [], .null)), some (.iaload, 1, (0, [], .null)), some (.aload_n 0, 1, (0, [], .null)), some (.iload_n 3, 1, (0, [], .null))]
def lk_b174_6 : List (Option lk_E) := [some (.iconst 3, 1, (0, [], .int (3))), some (.iadd, 1, (0, [], .null)), some (.iaload, 1, (0, [], .null)), some (.aload_n 0, 1, (0, [], .null)), some (.iload_n 3, 1, (0, [], .null)), some (.iconst 4, 1, (0, [], .int (4))), some (.iadd, 1, (0, [], .null)), some (.iaload, 1, (0, [], .null)), some (.aload_n 0, 1, (0, [], .null)), some (.iload_n 3, 1, (0, [], .null)), some (.iconst 5, 1, (0, [], .int (5))), some (.iadd, 1, (0, [], .null)), some (.iaload, 1, (0, [], .null)), some (.invokevirtual 26, 3, (1, [(11, 118)], .ref 119)), none, none, some (.if_icmp .eq 910, 3, (1214, [], .null)), none, none, some (.iconst 0, 1, (0, [], .int (0))), some (.ireturn, 1, (0, [], .null)), some (.aload_n 1, 1, (0, [], .null)), some (.aload_n 0, 1, (0, [], .null)), some (.iload_n 3, 1, (0, [], .null)), some (.iconst 1, 1, (0, [], .int (1))), some (.iadd, 1, (0, [], .null)), some (.iaload, 1, (0, [], .null)), some (.invokevirtual 27, 3, (1, [(10, 69)], .ref 120)), none, none, some (.aload_n 2, 1, (0, [], .null)), some (.aload_n 0, 1, (0, [], .null)), some (.iload_n 3, 1, (0, [], .null)), some (.iconst 1, 1, (0, [], .int (1))), some (.iadd, 1, (0, [], .null)), some (.iaload, 1, (0, [], .null)), some (.invokevirtual 31, 3, (1, [(11, 119)], .ref 121)), none, none, some (.if_icmp .eq 887, 3, (1214, [], .null)), none, none, some (.iconst 0, 1, (0, [], .int (0))), some (.ireturn, 1, (0, [], .null)), some (.aload_n 1, 1, (0, [], .null)), some (.aload_n 0, 1, (0, [], .null)), some (.iload_n 3, 1, (0, [], .null)), some (.iconst 1, 1, (0, [], .int (1)))]
def lk_b174_7 : List (Option lk_E) := [some (.iadd, 1, (0, [], .null)), some (.iaload, 1, (0, [], .null)), some (.aload_n 0, 1, (0, [], .null)), some (.iload_n 3, 1, (0, [], .null)), some (.iconst 2, 1, (0, [], .int (2))), some (.iadd, 1, (0, [], .null)), some (.iaload, 1, (0, [], .null)), some (.aload_n 0, 1, (0, [], .null)), some (.iload_n 3, 1, (0, [], .null)), some (.iconst 3, 1, (0, [], .int (3))), some (.iadd, 1, (0, [], .null)), some (.iaload, 1, (0, [], .null)), some (.aload_n 0, 1, (0, [], .null)), some (.iload_n 3, 1, (0, [], .null)), some (.iconst 4, 1, (0, [], .int (4))), some (.iadd, 1, (0, [], .null)), some (.iaload, 1, (0, [], .null)), some (.invokevirtual 32, 3, (1, [(10, 70)], .ref 122)), none, none, some (.aload_n 2, 1, (0, [], .null)), some (.aload_n 0, 1, (0, [], .null)), some (.iload_n 3, 1, (0, [], .null)), some (.iconst 1, 1, (0, [], .int (1))), some (.iadd, 1, (0, [], .null)), some (.iaload, 1, (0, [], .null)), some (.aload_n 0, 1, (0, [], .null)), some (.iload_n 3, 1, (0, [], .null)), some (.iconst 2, 1, (0, [], .int (2))), some (.iadd, 1, (0, [], .null)), some (.iaload, 1, (0, [], .null)), some (.aload_n 0, 1, (0, [], .null)), some (.iload_n 3, 1, (0, [], .null)), some (.iconst 3, 1, (0, [], .int (3))), some (.iadd, 1, (0, [], .null)), some (.iaload, 1, (0, [], .null)), some (.aload_n 0, 1, (0, [], .null)), some (.iload_n 3, 1, (0, [], .null)), some (.iconst 4, 1, (0, [], .int (4))), some (.iadd, 1, (0, [], .null)), some (.iaload, 1, (0, [], .null)), some (.invokevirtual 36, 3, (1, [(11, 129)], .ref 123)), none, none, some (.if_icmp .eq 834, 3, (1214, [], .null)), none, none, some (.iconst 0, 1, (0, [], .int (0)))]
def lk_b174_8 : List (Option lk_E) := [some (.ireturn, 1, (0, [], .null)), some (.aload_n 1, 1, (0, [], .null)), some (.aload_n 0, 1, (0, [], .null)), some (.iload_n 3, 1, (0, [], .null)), some (.iconst 1, 1, (0, [], .int (1))), some (.iadd, 1, (0, [], .null)), some (.iaload, 1, (0, [], .null)), some (.aload_n 0, 1, (0, [], .null)), some (.iload_n 3, 1, (0, [], .null)), some (.iconst 2, 1, (0, [], .int (2))), some (.iadd, 1, (0, [], .null)), some (.iaload, 1, (0, [], .null)), some (.aload_n 0, 1, (0, [], .null)), some (.iload_n 3, 1, (0, [], .null)), some (.iconst 3, 1, (0, [], .int (3))), some (.iadd, 1, (0, [], .null)), some (.iaload, 1, (0, [], .null)), some (.aload_n 0, 1, (0, [], .null)), some (.iload_n 3, 1, (0, [], .null)), some (.iconst 4, 1, (0, [], .int (4))), some (.iadd, 1, (0, [], .null)), some (.iaload, 1, (0, [], .null)), some (.invokevirtual 37, 3, (1, [(10, 71)], .ref 124)), none, none, some (.aload_n 2, 1, (0, [], .null)), some (.aload_n 0, 1, (0, [], .null)), some (.iload_n 3, 1, (0, [], .null)), some (.iconst 1, 1, (0, [], .int (1))), some (.iadd, 1, (0, [], .null)), some (.iaload, 1, (0, [], .null)), some (.aload_n 0, 1, (0, [], .null)), some (.iload_n 3, 1, (0, [], .null)), some (.iconst 2, 1, (0, [], .int (2))), some (.iadd, 1, (0, [], .null)), some (.iaload, 1, (0, [], .null)), some (.aload_n 0, 1, (0, [], .null)), some (.iload_n 3, 1, (0, [], .null)), some (.iconst 3, 1, (0, [], .int (3))), some (.iadd, 1, (0, [], .null)), some (.iaload, 1, (0, [], .null)), some (.aload_n 0, 1, (0, [], .null)), some (.iload_n 3, 1, (0, [], .null)), some (.iconst 4, 1, (0, [], .int (4))), some (.iadd, 1, (0, [], .null)), some (.iaload, 1, (0, [], .null)), some (.invokevirtual 40, 3, (1, [(11, 130)], .ref 125)), none]
def lk_b174_9 : List (Option lk_E) := [none, some (.if_icmp .eq 781, 3, (1214, [], .null)), none, none, some (.iconst 0, 1, (0, [], .int (0))), some (.ireturn, 1, (0, [], .null)), some (.aload_n 1, 1, (0, [], .null)), some (.aload_n 0, 1, (0, [], .null)), some (.iload_n 3, 1, (0, [], .null)), some (.iconst 1, 1, (0, [], .int (1))), some (.iadd, 1, (0, [], .null)), some (.iaload, 1, (0, [], .null)), some (.aload_n 0, 1, (0, [], .null)), some (.iload_n 3, 1, (0, [], .null)), some (.iconst 2, 1, (0, [], .int (2))), some (.iadd, 1, (0, [], .null)), some (.iaload, 1, (0, [], .null)), some (.aload_n 0, 1, (0, [], .null)), some (.iload_n 3, 1, (0, [], .null)), some (.iconst 3, 1, (0, [], .int (3))), some (.iadd, 1, (0, [], .null)), some (.iaload, 1, (0, [], .null)), some (.aload_n 0, 1, (0, [], .null)), some (.iload_n 3, 1, (0, [], .null)), some (.iconst 4, 1, (0, [], .int (4))), some (.iadd, 1, (0, [], .null)), some (.iaload, 1, (0, [], .null)), some (.invokevirtual 41, 3, (1, [(10, 72)], .ref 126)), none, none, some (.aload_n 2, 1, (0, [], .null)), some (.aload_n 0, 1, (0, [], .null)), some (.iload_n 3, 1, (0, [], .null)), some (.iconst 1, 1, (0, [], .int (1))), some (.iadd, 1, (0, [], .null)), some (.iaload, 1, (0, [], .null)), some (.aload_n 0, 1, (0, [], .null)), some (.iload_n 3, 1, (0, [], .null)), some (.iconst 2, 1, (0, [], .int (2))), some (.iadd, 1, (0, [], .null)), some (.iaload, 1, (0, [], .null)), some (.aload_n 0, 1, (0, [], .null)), some (.iload_n 3, 1, (0, [], .null)), some (.iconst 3, 1, (0, [], .int (3))), some (.iadd, 1, (0, [], .null)), some (.iaload, 1, (0, [], .null)), some (.aload_n 0, 1, (0, [], .null)), some (.iload_n 3, 1, (0, [], .null))]
def lk_b174_10 : List (Option lk_E) := [some (.iconst 4, 1, (0, [], .int (4))), some (.iadd, 1, (0, [], .null)), some (.iaload, 1, (0, [], .null)), some (.invokevirtual 44, 3, (1, [(11, 134)], .ref 127)), none, none, some (.if_icmp .eq 728, 3, (1214, [], .null)), none, none, some (.iconst 0, 1, (0, [], .int (0))), some (.ireturn, 1, (0, [], .null)), some (.aload_n 1, 1, (0, [], .null)), some (.aload_n 0, 1, (0, [], .null)), some (.iload_n 3, 1, (0, [], .null)), some (.iconst 1, 1, (0, [], .int (1))), some (.iadd, 1, (0, [], .null)), some (.iaload, 1, (0, [], .null)), some (.aload_n 0, 1, (0, [], .null)), some (.iload_n 3, 1, (0, [], .null)), some (.iconst 2, 1, (0, [], .int (2))), some (.iadd, 1, (0, [], .null)), some (.iaload, 1, (0, [], .null)), some (.aload_n 0, 1, (0, [], .null)), some (.iload_n 3, 1, (0, [], .null)), some (.iconst 3, 1, (0, [], .int (3))), some (.iadd, 1, (0, [], .null)), some (.iaload, 1, (0, [], .null)), some (.aload_n 0, 1, (0, [], .null)), some (.iload_n 3, 1, (0, [], .null)), some (.iconst 4, 1, (0, [], .int (4))), some (.iadd, 1, (0, [], .null)), some (.iaload, 1, (0, [], .null)), some (.invokevirtual 45, 3, (1, [(10, 73)], .ref 128)), none, none, some (.aload_n 2, 1, (0, [], .null)), some (.aload_n 0, 1, (0, [], .null)), some (.iload_n 3, 1, (0, [], .null)), some (.iconst 1, 1, (0, [], .int (1))), some (.iadd, 1, (0, [], .null)), some (.iaload, 1, (0, [], .null)), some (.aload_n 0, 1, (0, [], .null)), some (.iload_n 3, 1, (0, [], .null)), some (.iconst 2, 1, (0, [], .int (2))), some (.iadd, 1, (0, [], .null)), some (.iaload, 1, (0, [], .null)), some (.aload_n 0, 1, (0, [], .null)), some (.iload_n 3, 1, (0, [], .null))]
def lk_b174_11 : List (Option lk_E) := [some (.iconst 3, 1, (0, [], .int (3))), some (.iadd, 1, (0, [], .null)), some (.iaload, 1, (0, [], .null)), some (.aload_n 0, 1, (0, [], .null)), some (.iload_n 3, 1, (0, [], .null)), some (.iconst 4, 1, (0, [], .int (4))), some (.iadd, 1, (0, [], .null)), some (.iaload, 1, (0, [], .null)), some (.invokevirtual 48, 3, (1, [(11, 135)], .ref 129)), none, none, some (.if_icmp .eq 675, 3, (1214, [], .null)), none, none, some (.iconst 0, 1, (0, [], .int (0))), some (.ireturn, 1, (0, [], .null)), some (.aload_n 1, 1, (0, [], .null)), some (.aload_n 0, 1, (0, [], .null)), some (.iload_n 3, 1, (0, [], .null)), some (.iconst 1, 1, (0, [], .int (1))), some (.iadd, 1, (0, [], .null)), some (.iaload, 1, (0, [], .null)), some (.aload_n 0, 1, (0, [], .null)), some (.iload_n 3, 1, (0, [], .null)), some (.iconst 2, 1, (0, [], .int (2))), some (.iadd, 1, (0, [], .null)), some (.iaload, 1, (0, [], .null)), some (.aload_n 0, 1, (0, [], .null)), some (.iload_n 3, 1, (0, [], .null)), some (.iconst 3, 1, (0, [], .int (3))), some (.iadd, 1, (0, [], .null)), some (.iaload, 1, (0, [], .null)), some (.invokevirtual 49, 3, (1, [(10, 74)], .ref 130)), none, none, some (.aload_n 2, 1, (0, [], .null)), some (.aload_n 0, 1, (0, [], .null)), some (.iload_n 3, 1, (0, [], .null)), some (.iconst 1, 1, (0, [], .int (1))), some (.iadd, 1, (0, [], .null)), some (.iaload, 1, (0, [], .null)), some (.aload_n 0, 1, (0, [], .null)), some (.iload_n 3, 1, (0, [], .null)), some (.iconst 2, 1, (0, [], .int (2))), some (.iadd, 1, (0, [], .null)), some (.iaload, 1, (0, [], .null)), some (.aload_n 0, 1, (0, [], .null)), some (.iload_n 3, 1, (0, [], .null))]
def lk_b174_12 : List (Option lk_E) := [some (.iconst 3, 1, (0, [], .int (3))), some (.iadd, 1, (0, [], .null)), some (.iaload, 1, (0, [], .null)), some (.invokevirtual 52, 3, (1, [(11, 137)], .ref 131)), none, none, some (.if_icmp .eq 632, 3, (1214, [], .null)), none, none, some (.iconst 0, 1, (0, [], .int (0))), some (.ireturn, 1, (0, [], .null)), some (.aload_n 1, 1, (0, [], .null)), some (.aload_n 0, 1, (0, [], .null)), some (.iload_n 3, 1, (0, [], .null)), some (.iconst 1, 1, (0, [], .int (1))), some (.iadd, 1, (0, [], .null)), some (.iaload, 1, (0, [], .null)), some (.aload_n 0, 1, (0, [], .null)), some (.iload_n 3, 1, (0, [], .null)), some (.iconst 2, 1, (0, [], .int (2))), some (.iadd, 1, (0, [], .null)), some (.iaload, 1, (0, [], .null)), some (.aload_n 0, 1, (0, [], .null)), some (.iload_n 3, 1, (0, [], .null)), some (.iconst 3, 1, (0, [], .int (3))), some (.iadd, 1, (0, [], .null)), some (.iaload, 1, (0, [], .null)), some (.invokevirtual 53, 3, (1, [(10, 75)], .ref 132)), none, none, some (.aload_n 2, 1, (0, [], .null)), some (.aload_n 0, 1, (0, [], .null)), some (.iload_n 3, 1, (0, [], .null)), some (.iconst 1, 1, (0, [], .int (1))), some (.iadd, 1, (0, [], .null)), some (.iaload, 1, (0, [], .null)), some (.aload_n 0, 1, (0, [], .null)), some (.iload_n 3, 1, (0, [], .null)), some (.iconst 2, 1, (0, [], .int (2))), some (.iadd, 1, (0, [], .null)), some (.iaload, 1, (0, [], .null)), some (.aload_n 0, 1, (0, [], .null)), some (.iload_n 3, 1, (0, [], .null)), some (.iconst 3, 1, (0, [], .int (3))), some (.iadd, 1, (0, [], .null)), some (.iaload, 1, (0, [], .null)), some (.invokevirtual 56, 3, (1, [(11, 138)], .ref 133)), none]
def lk_b174_13 : List (Option lk_E) := [none, some (.if_icmp .eq 589, 3, (1214, [], .null)), none, none, some (.iconst 0, 1, (0, [], .int (0))), some (.ireturn, 1, (0, [], .null)), some (.aload_n 1, 1, (0, [], .null)), some (.aload_n 0, 1, (0, [], .null)), some (.iload_n 3, 1, (0, [], .null)), some (.iconst 1, 1, (0, [], .int (1))), some (.iadd, 1, (0, [], .null)), some (.iaload, 1, (0, [], .null)), some (.aload_n 0, 1, (0, [], .null)), some (.iload_n 3, 1, (0, [], .null)), some (.iconst 2, 1, (0, [], .int (2))), some (.iadd, 1, (0, [], .null)), some (.iaload, 1, (0, [], .null)), some (.aload_n 0, 1, (0, [], .null)), some (.iload_n 3, 1, (0, [], .null)), some (.iconst 3, 1, (0, [], .int (3))), some (.iadd, 1, (0, [], .null)), some (.iaload, 1, (0, [], .null)), some (.invokevirtual 57, 3, (1, [(10, 76)], .ref 134)), none, none, some (.aload_n 2, 1, (0, [], .null)), some (.aload_n 0, 1, (0, [], .null)), some (.iload_n 3, 1, (0, [], .null)), some (.iconst 1, 1, (0, [], .int (1))), some (.iadd, 1, (0, [], .null)), some (.iaload, 1, (0, [], .null)), some (.aload_n 0, 1, (0, [], .null)), some (.iload_n 3, 1, (0, [], .null)), some (.iconst 2, 1, (0, [], .int (2))), some (.iadd, 1, (0, [], .null)), some (.iaload, 1, (0, [], .null)), some (.aload_n 0, 1, (0, [], .null)), some (.iload_n 3, 1, (0, [], .null)), some (.iconst 3, 1, (0, [], .int (3))), some (.iadd, 1, (0, [], .null)), some (.iaload, 1, (0, [], .null)), some (.invokevirtual 60, 3, (1, [(11, 141)], .ref 135)), none, none, some (.if_icmp .eq 546, 3, (1214, [], .null)), none, none, some (.iconst 0, 1, (0, [], .int (0)))]
def lk_b174_14 : List (Option lk_E) := [some (.ireturn, 1, (0, [], .null)), some (.aload_n 1, 1, (0, [], .null)), some (.aload_n 0, 1, (0, [], .null)), some (.iload_n 3, 1, (0, [], .null)), some (.iconst 1, 1, (0, [], .int (1))), some (.iadd, 1, (0, [], .null)), some (.iaload, 1, (0, [], .null)), some (.aload_n 0, 1, (0, [], .null)), some (.iload_n 3, 1, (0, [], .null)), some (.iconst 2, 1, (0, [], .int (2))), some (.iadd, 1, (0, [], .null)), some (.iaload, 1, (0, [], .null)), some (.aload_n 0, 1, (0, [], .null)), some (.iload_n 3, 1, (0, [], .null)), some (.iconst 3, 1, (0, [], .int (3))), some (.iadd, 1, (0, [], .null)), some (.iaload, 1, (0, [], .null)), some (.invokevirtual 61, 3, (1, [(10, 77)], .ref 136)), none, none, some (.aload_n 2, 1, (0, [], .null)), some (.aload_n 0, 1, (0, [], .null)), some (.iload_n 3, 1, (0, [], .null)), some (.iconst 1, 1, (0, [], .int (1))), some (.iadd, 1, (0, [], .null)), some (.iaload, 1, (0, [], .null)), some (.aload_n 0, 1, (0, [], .null)), some (.iload_n 3, 1, (0, [], .null)), some (.iconst 2, 1, (0, [], .int (2))), some (.iadd, 1, (0, [], .null)), some (.iaload, 1, (0, [], .null)), some (.aload_n 0, 1, (0, [], .null)), some (.iload_n 3, 1, (0, [], .null)), some (.iconst 3, 1, (0, [], .int (3))), some (.iadd, 1, (0, [], .null)), some (.iaload, 1, (0, [], .null)), some (.invokevirtual 64, 3, (1, [(11, 144)], .ref 137)), none, none, some (.if_icmp .eq 503, 3, (1214, [], .null)), none, none, some (.iconst 0, 1, (0, [], .int (0))), some (.ireturn, 1, (0, [], .null)), some (.aload_n 1, 1, (0, [], .null)), some (.aload_n 0, 1, (0, [], .null)), some (.iload_n 3, 1, (0, [], .null)), some (.iconst 1, 1, (0, [], .int (1)))]
def lk_b174_15 : List (Option lk_E) := [some (.iadd, 1, (0, [], .null)), some (.iaload, 1, (0, [], .null)), some (.invokevirtual 65, 3, (1, [(10, 78)], .ref 138)), none, none, some (.aload_n 2, 1, (0, [], .null)), some (.aload_n 0, 1, (0, [], .null)), some (.iload_n 3, 1, (0, [], .null)), some (.iconst 1, 1, (0, [], .int (1))), some (.iadd, 1, (0, [], .null)), some (.iaload, 1, (0, [], .null)), some (.invokevirtual 68, 3, (1, [(11, 145)], .ref 139)), none, none, some (.if_icmp .eq 480, 3, (1214, [], .null)), none, none, some (.iconst 0, 1, (0, [], .int (0))), some (.ireturn, 1, (0, [], .null)), some (.aload_n 1, 1, (0, [], .null)), some (.aload_n 0, 1, (0, [], .null)), some (.iload_n 3, 1, (0, [], .null)), some (.iconst 1, 1, (0, [], .int (1))), some (.iadd, 1, (0, [], .null)), some (.iaload, 1, (0, [], .null)), some (.invokevirtual 69, 3, (1, [(10, 79)], .ref 140)), none, none, some (.aload_n 2, 1, (0, [], .null)), some (.aload_n 0, 1, (0, [], .null)), some (.iload_n 3, 1, (0, [], .null)), some (.iconst 1, 1, (0, [], .int (1))), some (.iadd, 1, (0, [], .null)), some (.iaload, 1, (0, [], .null)), some (.invokevirtual 72, 3, (1, [(11, 146)], .ref 141)), none, none, some (.if_icmp .eq 457, 3, (1214, [], .null)), none, none, some (.iconst 0, 1, (0, [], .int (0))), some (.ireturn, 1, (0, [], .null)), some (.aload_n 1, 1, (0, [], .null)), some (.aload_n 0, 1, (0, [], .null)), some (.iload_n 3, 1, (0, [], .null)), some (.iconst 1, 1, (0, [], .int (1))), some (.iadd, 1, (0, [], .null)), some (.iaload, 1, (0, [], .null))]
def lk_b174_16 : List (Option lk_E) := [some (.aload_n 0, 1, (0, [], .null)), some (.iload_n 3, 1, (0, [], .null)), some (.iconst 2, 1, (0, [], .int (2))), some (.iadd, 1, (0, [], .null)), some (.iaload, 1, (0, [], .null)), some (.invokevirtual 73, 3, (1, [(10, 80)], .ref 142)), none, none, some (.aload_n 2, 1, (0, [], .null)), some (.aload_n 0, 1, (0, [], .null)), some (.iload_n 3, 1, (0, [], .null)), some (.iconst 1, 1, (0, [], .int (1))), some (.iadd, 1, (0, [], .null)), some (.iaload, 1, (0, [], .null)), some (.aload_n 0, 1, (0, [], .null)), some (.iload_n 3, 1, (0, [], .null)), some (.iconst 2, 1, (0, [], .int (2))), some (.iadd, 1, (0, [], .null)), some (.iaload, 1, (0, [], .null)), some (.invokevirtual 77, 3, (1, [(11, 147)], .ref 143)), none, none, some (.if_icmp .eq 424, 3, (1214, [], .null)), none, none, some (.iconst 0, 1, (0, [], .int (0))), some (.ireturn, 1, (0, [], .null)), some (.aload_n 1, 1, (0, [], .null)), some (.aload_n 0, 1, (0, [], .null)), some (.iload_n 3, 1, (0, [], .null)), some (.iconst 1, 1, (0, [], .int (1))), some (.iadd, 1, (0, [], .null)), some (.iaload, 1, (0, [], .null)), some (.aload_n 0, 1, (0, [], .null)), some (.iload_n 3, 1, (0, [], .null)), some (.iconst 2, 1, (0, [], .int (2))), some (.iadd, 1, (0, [], .null)), some (.iaload, 1, (0, [], .null)), some (.invokevirtual 78, 3, (1, [(10, 81)], .ref 144)), none, none, some (.aload_n 2, 1, (0, [], .null)), some (.aload_n 0, 1, (0, [], .null)), some (.iload_n 3, 1, (0, [], .null)), some (.iconst 1, 1, (0, [], .int (1))), some (.iadd, 1, (0, [], .null)), some (.iaload, 1, (0, [], .null)), some (.aload_n 0, 1, (0, [], .null))]
def lk_b174_17 : List (Option lk_E) := [some (.iload_n 3, 1, (0, [], .null)), some (.iconst 2, 1, (0, [], .int (2))), some (.iadd, 1, (0, [], .null)), some (.iaload, 1, (0, [], .null)), some (.invokevirtual 81, 3, (1, [(11, 148)], .ref 145)), none, none, some (.if_icmp .eq 391, 3, (1214, [], .null)), none, none, some (.iconst 0, 1, (0, [], .int (0))), some (.ireturn, 1, (0, [], .null)), some (.aload_n 1, 1, (0, [], .null)), some (.aload_n 0, 1, (0, [], .null)), some (.iload_n 3, 1, (0, [], .null)), some (.iconst 1, 1, (0, [], .int (1))), some (.iadd, 1, (0, [], .null)), some (.iaload, 1, (0, [], .null)), some (.aload_n 0, 1, (0, [], .null)), some (.iload_n 3, 1, (0, [], .null)), some (.iconst 2, 1, (0, [], .int (2))), some (.iadd, 1, (0, [], .null)), some (.iaload, 1, (0, [], .null)), some (.invokevirtual 82, 3, (1, [(10, 82)], .ref 146)), none, none, some (.aload_n 2, 1, (0, [], .null)), some (.aload_n 0, 1, (0, [], .null)), some (.iload_n 3, 1, (0, [], .null)), some (.iconst 1, 1, (0, [], .int (1))), some (.iadd, 1, (0, [], .null)), some (.iaload, 1, (0, [], .null)), some (.aload_n 0, 1, (0, [], .null)), some (.iload_n 3, 1, (0, [], .null)), some (.iconst 2, 1, (0, [], .int (2))), some (.iadd, 1, (0, [], .null)), some (.iaload, 1, (0, [], .null)), some (.invokevirtual 85, 3, (1, [(11, 153)], .ref 147)), none, none, some (.if_icmp .eq 358, 3, (1214, [], .null)), none, none, some (.iconst 0, 1, (0, [], .int (0))), some (.ireturn, 1, (0, [], .null)), some (.aload_n 1, 1, (0, [], .null)), some (.aload_n 0, 1, (0, [], .null)), some (.iload_n 3, 1, (0, [], .null))]
def lk_b174_18 : List (Option lk_E) := [some (.iconst 1, 1, (0, [], .int (1))), some (.iadd, 1, (0, [], .null)), some (.iaload, 1, (0, [], .null)), some (.invokevirtual 86, 3, (1, [(10, 83)], .ref 148)), none, none, some (.aload_n 2, 1, (0, [], .null)), some (.aload_n 0, 1, (0, [], .null)), some (.iload_n 3, 1, (0, [], .null)), some (.iconst 1, 1, (0, [], .int (1))), some (.iadd, 1, (0, [], .null)), some (.iaload, 1, (0, [], .null)), some (.invokevirtual 89, 3, (1, [(11, 154)], .ref 149)), none, none, some (.if_icmp .eq 335, 3, (1214, [], .null)), none, none, some (.iconst 0, 1, (0, [], .int (0))), some (.ireturn, 1, (0, [], .null)), some (.aload_n 1, 1, (0, [], .null)), some (.aload_n 0, 1, (0, [], .null)), some (.iload_n 3, 1, (0, [], .null)), some (.iconst 1, 1, (0, [], .int (1))), some (.iadd, 1, (0, [], .null)), some (.iaload, 1, (0, [], .null)), some (.aload_n 0, 1, (0, [], .null)), some (.iload_n 3, 1, (0, [], .null)), some (.iconst 2, 1, (0, [], .int (2))), some (.iadd, 1, (0, [], .null)), some (.iaload, 1, (0, [], .null)), some (.invokevirtual 90, 3, (1, [(10, 84)], .ref 150)), none, none, some (.aload_n 2, 1, (0, [], .null)), some (.aload_n 0, 1, (0, [], .null)), some (.iload_n 3, 1, (0, [], .null)), some (.iconst 1, 1, (0, [], .int (1))), some (.iadd, 1, (0, [], .null)), some (.iaload, 1, (0, [], .null)), some (.aload_n 0, 1, (0, [], .null)), some (.iload_n 3, 1, (0, [], .null)), some (.iconst 2, 1, (0, [], .int (2))), some (.iadd, 1, (0, [], .null)), some (.iaload, 1, (0, [], .null)), some (.invokevirtual 93, 3, (1, [(11, 155)], .ref 151)), none, none]
def lk_b174_19 : List (Option lk_E) := [some (.if_icmp .eq 302, 3, (1214, [], .null)), none, none, some (.iconst 0, 1, (0, [], .int (0))), some (.ireturn, 1, (0, [], .null)), some (.aload_n 1, 1, (0, [], .null)), some (.aload_n 0, 1, (0, [], .null)), some (.iload_n 3, 1, (0, [], .null)), some (.iconst 1, 1, (0, [], .int (1))), some (.iadd, 1, (0, [], .null)), some (.iaload, 1, (0, [], .null)), some (.aload_n 0, 1, (0, [], .null)), some (.iload_n 3, 1, (0, [], .null)), some (.iconst 2, 1, (0, [], .int (2))), some (.iadd, 1, (0, [], .null)), some (.iaload, 1, (0, [], .null)), some (.invokevirtual 94, 3, (1, [(10, 85)], .ref 152)), none, none, some (.aload_n 2, 1, (0, [], .null)), some (.aload_n 0, 1, (0, [], .null)), some (.iload_n 3, 1, (0, [], .null)), some (.iconst 1, 1, (0, [], .int (1))), some (.iadd, 1, (0, [], .null)), some (.iaload, 1, (0, [], .null)), some (.aload_n 0, 1, (0, [], .null)), some (.iload_n 3, 1, (0, [], .null)), some (.iconst 2, 1, (0, [], .int (2))), some (.iadd, 1, (0, [], .null)), some (.iaload, 1, (0, [], .null)), some (.invokevirtual 97, 3, (1, [(11, 156)], .ref 153)), none, none, some (.if_icmp .eq 269, 3, (1214, [], .null)), none, none, some (.iconst 0, 1, (0, [], .int (0))), some (.ireturn, 1, (0, [], .null)), some (.aload_n 1, 1, (0, [], .null)), some (.aload_n 0, 1, (0, [], .null)), some (.iload_n 3, 1, (0, [], .null)), some (.iconst 1, 1, (0, [], .int (1))), some (.iadd, 1, (0, [], .null)), some (.iaload, 1, (0, [], .null)), some (.aload_n 0, 1, (0, [], .null)), some (.iload_n 3, 1, (0, [], .null)), some (.iconst 2, 1, (0, [], .int (2))), some (.iadd, 1, (0, [], .null))]
def lk_b174_20 : List (Option lk_E) := [some (.iaload, 1, (0, [], .null)), some (.aload_n 0, 1, (0, [], .null)), some (.iload_n 3, 1, (0, [], .null)), some (.iconst 3, 1, (0, [], .int (3))), some (.iadd, 1, (0, [], .null)), some (.iaload, 1, (0, [], .null)), some (.aload_n 0, 1, (0, [], .null)), some (.iload_n 3, 1, (0, [], .null)), some (.iconst 4, 1, (0, [], .int (4))), some (.iadd, 1, (0, [], .null)), some (.iaload, 1, (0, [], .null)), some (.invokevirtual 98, 3, (1, [(10, 86)], .ref 154)), none, none, some (.aload_n 2, 1, (0, [], .null)), some (.aload_n 0, 1, (0, [], .null)), some (.iload_n 3, 1, (0, [], .null)), some (.iconst 1, 1, (0, [], .int (1))), some (.iadd, 1, (0, [], .null)), some (.iaload, 1, (0, [], .null)), some (.aload_n 0, 1, (0, [], .null)), some (.iload_n 3, 1, (0, [], .null)), some (.iconst 2, 1, (0, [], .int (2))), some (.iadd, 1, (0, [], .null)), some (.iaload, 1, (0, [], .null)), some (.aload_n 0, 1, (0, [], .null)), some (.iload_n 3, 1, (0, [], .null)), some (.iconst 3, 1, (0, [], .int (3))), some (.iadd, 1, (0, [], .null)), some (.iaload, 1, (0, [], .null)), some (.aload_n 0, 1, (0, [], .null)), some (.iload_n 3, 1, (0, [], .null)), some (.iconst 4, 1, (0, [], .int (4))), some (.iadd, 1, (0, [], .null)), some (.iaload, 1, (0, [], .null)), some (.invokevirtual 101, 3, (1, [(11, 159)], .ref 155)), none, none, some (.if_icmp .eq 216, 3, (1214, [], .null)), none, none, some (.iconst 0, 1, (0, [], .int (0))), some (.ireturn, 1, (0, [], .null)), some (.aload_n 1, 1, (0, [], .null)), some (.aload_n 0, 1, (0, [], .null)), some (.iload_n 3, 1, (0, [], .null)), some (.iconst 1, 1, (0, [], .int (1))), some (.iadd, 1, (0, [], .null))]
def lk_b174_21 : List (Option lk_E) := [some (.iaload, 1, (0, [], .null)), some (.invokevirtual 102, 3, (1, [(10, 87)], .ref 156)), none, none, some (.aload_n 2, 1, (0, [], .null)), some (.aload_n 0, 1, (0, [], .null)), some (.iload_n 3, 1, (0, [], .null)), some (.iconst 1, 1, (0, [], .int (1))), some (.iadd, 1, (0, [], .null)), some (.iaload, 1, (0, [], .null)), some (.invokevirtual 105, 3, (1, [(11, 161)], .ref 157)), none, none, some (.if_icmp .eq 193, 3, (1214, [], .null)), none, none, some (.iconst 0, 1, (0, [], .int (0))), some (.ireturn, 1, (0, [], .null)), some (.aload_n 1, 1, (0, [], .null)), some (.aload_n 0, 1, (0, [], .null)), some (.iload_n 3, 1, (0, [], .null)), some (.iconst 1, 1, (0, [], .int (1))), some (.iadd, 1, (0, [], .null)), some (.iaload, 1, (0, [], .null)), some (.aload_n 0, 1, (0, [], .null)), some (.iload_n 3, 1, (0, [], .null)), some (.iconst 2, 1, (0, [], .int (2))), some (.iadd, 1, (0, [], .null)), some (.iaload, 1, (0, [], .null)), some (.invokevirtual 106, 3, (1, [(10, 88)], .ref 158)), none, none, some (.aload_n 2, 1, (0, [], .null)), some (.aload_n 0, 1, (0, [], .null)), some (.iload_n 3, 1, (0, [], .null)), some (.iconst 1, 1, (0, [], .int (1))), some (.iadd, 1, (0, [], .null)), some (.iaload, 1, (0, [], .null)), some (.aload_n 0, 1, (0, [], .null)), some (.iload_n 3, 1, (0, [], .null)), some (.iconst 2, 1, (0, [], .int (2))), some (.iadd, 1, (0, [], .null)), some (.iaload, 1, (0, [], .null)), some (.invokevirtual 109, 3, (1, [(11, 162)], .ref 159)), none, none, some (.if_icmp .eq 160, 3, (1214, [], .null)), none]
def lk_b174_22 : List (Option lk_E) := [none, some (.iconst 0, 1, (0, [], .int (0))), some (.ireturn, 1, (0, [], .null)), some (.aload_n 1, 1, (0, [], .null)), some (.aload_n 0, 1, (0, [], .null)), some (.iload_n 3, 1, (0, [], .null)), some (.iconst 1, 1, (0, [], .int (1))), some (.iadd, 1, (0, [], .null)), some (.iaload, 1, (0, [], .null)), some (.aload_n 0, 1, (0, [], .null)), some (.iload_n 3, 1, (0, [], .null)), some (.iconst 2, 1, (0, [], .int (2))), some (.iadd, 1, (0, [], .null)), some (.iaload, 1, (0, [], .null)), some (.aload_n 0, 1, (0, [], .null)), some (.iload_n 3, 1, (0, [], .null)), some (.iconst 3, 1, (0, [], .int (3))), some (.iadd, 1, (0, [], .null)), some (.iaload, 1, (0, [], .null)), some (.aload_n 0, 1, (0, [], .null)), some (.iload_n 3, 1, (0, [], .null)), some (.iconst 4, 1, (0, [], .int (4))), some (.iadd, 1, (0, [], .null)), some (.iaload, 1, (0, [], .null)), some (.aload_n 0, 1, (0, [], .null)), some (.iload_n 3, 1, (0, [], .null)), some (.iconst 5, 1, (0, [], .int (5))), some (.iadd, 1, (0, [], .null)), some (.iaload, 1, (0, [], .null)), some (.invokevirtual 110, 3, (1, [(10, 89)], .ref 160)), none, none, some (.aload_n 2, 1, (0, [], .null)), some (.aload_n 0, 1, (0, [], .null)), some (.iload_n 3, 1, (0, [], .null)), some (.iconst 1, 1, (0, [], .int (1))), some (.iadd, 1, (0, [], .null)), some (.iaload, 1, (0, [], .null)), some (.aload_n 0, 1, (0, [], .null)), some (.iload_n 3, 1, (0, [], .null)), some (.iconst 2, 1, (0, [], .int (2))), some (.iadd, 1, (0, [], .null)), some (.iaload, 1, (0, [], .null)), some (.aload_n 0, 1, (0, [], .null)), some (.iload_n 3, 1, (0, [], .null)), some (.iconst 3, 1, (0, [], .int (3))), some (.iadd, 1, (0, [], .null)), some (.iaload, 1, (0, [], .null))]
def lk_b174_23 : List (Option lk_E) := [some (.aload_n 0, 1, (0, [], .null)), some (.iload_n 3, 1, (0, [], .null)), some (.iconst 4, 1, (0, [], .int (4))), some (.iadd, 1, (0, [], .null)), some (.iaload, 1, (0, [], .null)), some (.aload_n 0, 1, (0, [], .null)), some (.iload_n 3, 1, (0, [], .null)), some (.iconst 5, 1, (0, [], .int (5))), some (.iadd, 1, (0, [], .null)), some (.iaload, 1, (0, [], .null)), some (.invokevirtual 113, 3, (1, [(11, 163)], .ref 161)), none, none, some (.if_icmp .eq 97, 3, (1214, [], .null)), none, none, some (.iconst 0, 1, (0, [], .int (0))), some (.ireturn, 1, (0, [], .null)), some (.aload_n 1, 1, (0, [], .null)), some (.aload_n 0, 1, (0, [], .null)), some (.iload_n 3, 1, (0, [], .null)), some (.iconst 1, 1, (0, [], .int (1))), some (.iadd, 1, (0, [], .null)), some (.iaload, 1, (0, [], .null)), some (.aload_n 0, 1, (0, [], .null)), some (.iload_n 3, 1, (0, [], .null)), some (.iconst 2, 1, (0, [], .int (2))), some (.iadd, 1, (0, [], .null)), some (.iaload, 1, (0, [], .null)), some (.invokevirtual 114, 3, (1, [(10, 90)], .ref 162)), none, none, some (.aload_n 2, 1, (0, [], .null)), some (.aload_n 0, 1, (0, [], .null)), some (.iload_n 3, 1, (0, [], .null)), some (.iconst 1, 1, (0, [], .int (1))), some (.iadd, 1, (0, [], .null)), some (.iaload, 1, (0, [], .null)), some (.aload_n 0, 1, (0, [], .null)), some (.iload_n 3, 1, (0, [], .null)), some (.iconst 2, 1, (0, [], .int (2))), some (.iadd, 1, (0, [], .null)), some (.iaload, 1, (0, [], .null)), some (.invokevirtual 117, 3, (1, [(11, 165)], .ref 163)), none, none, some (.if_icmp .eq 64, 3, (1214, [], .null)), none]
def lk_b174_24 : List (Option lk_E) := [none, some (.iconst 0, 1, (0, [], .int (0))), some (.ireturn, 1, (0, [], .null)), some (.aload_n 1, 1, (0, [], .null)), some (.aload_n 0, 1, (0, [], .null)), some (.iload_n 3, 1, (0, [], .null)), some (.iconst 1, 1, (0, [], .int (1))), some (.iadd, 1, (0, [], .null)), some (.iaload, 1, (0, [], .null)), some (.invokevirtual 118, 3, (1, [(10, 91)], .ref 164)), none, none, some (.aload_n 2, 1, (0, [], .null)), some (.aload_n 0, 1, (0, [], .null)), some (.iload_n 3, 1, (0, [], .null)), some (.iconst 1, 1, (0, [], .int (1))), some (.iadd, 1, (0, [], .null)), some (.iaload, 1, (0, [], .null)), some (.invokevirtual 121, 3, (1, [(11, 167)], .ref 165)), none, none, some (.if_icmp .eq 41, 3, (1214, [], .null)), none, none, some (.iconst 0, 1, (0, [], .int (0))), some (.ireturn, 1, (0, [], .null)), some (.aload_n 1, 1, (0, [], .null)), some (.aload_n 0, 1, (0, [], .null)), some (.iload_n 3, 1, (0, [], .null)), some (.iconst 1, 1, (0, [], .int (1))), some (.iadd, 1, (0, [], .null)), some (.iaload, 1, (0, [], .null)), some (.invokevirtual 122, 3, (1, [(10, 92)], .ref 166)), none, none, some (.aload_n 2, 1, (0, [], .null)), some (.aload_n 0, 1, (0, [], .null)), some (.iload_n 3, 1, (0, [], .null)), some (.iconst 1, 1, (0, [], .int (1))), some (.iadd, 1, (0, [], .null)), some (.iaload, 1, (0, [], .null)), some (.invokevirtual 125, 3, (1, [(11, 168)], .ref 167)), none, none, some (.if_icmp .eq 18, 3, (1214, [], .null)), none, none, some (.iconst 0, 1, (0, [], .int (0)))]
def lk_b174_25 : List (Option lk_E) := [some (.ireturn, 1, (0, [], .null)), some (.aload_n 1, 1, (0, [], .null)), some (.invokevirtual 126, 3, (1, [(10, 93)], .ref 168)), none, none, some (.aload_n 2, 1, (0, [], .null)), some (.invokevirtual 130, 3, (1, [(11, 169)], .ref 169)), none, none, some (.if_icmp .eq 5, 3, (1214, [], .null)), none, none, some (.iconst 0, 1, (0, [], .int (0))), some (.ireturn, 1, (0, [], .null)), some (.iinc 3 6, 3, (0, [], .int (6))), none, none, some (.goto (-1199), 3, (18, [], .null)), none, none, some (.iconst 1, 1, (0, [], .int (1))), some (.ireturn, 1, (0, [], .null))]
def lk_b174 : List (Option lk_E) := lk_b174_0 ++ (lk_b174_1 ++ (lk_b174_2 ++ (lk_b174_3 ++ (lk_b174_4 ++ (lk_b174_5 ++ (lk_b174_6 ++ (lk_b174_7 ++ (lk_b174_8 ++ (lk_b174_9 ++ (lk_b174_10 ++ (lk_b174_11 ++ (lk_b174_12 ++ (lk_b174_13 ++ (lk_b174_14 ++ (lk_b174_15 ++ (lk_b174_16 ++ (lk_b174_17 ++ (lk_b174_18 ++ (lk_b174_19 ++ (lk_b174_20 ++ (lk_b174_21 ++ (lk_b174_22 ++ (lk_b174_23 ++ (lk_b174_24 ++ (lk_b174_25)))))))))))))))))))))))))
def lk_codes : List (List (Option lk_E)) := [lk_b0, lk_b1, lk_b2, lk_b3, lk_b4, lk_b5, lk_b6, lk_b7, lk_b8, lk_b9, lk_b10, lk_b11, lk_b12, lk_b13, lk_b14, lk_b15, lk_b16, lk_b17, lk_b18, lk_b19, lk_b20, lk_b21, lk_b22, lk_b23, lk_b24, lk_b25, lk_b26, lk_b27, lk_b28, lk_b29, lk_b30, lk_b31, lk_b32, lk_b33, lk_b34, lk_b35, lk_b36, lk_b37, lk_b38, lk_b39, lk_b40, lk_b41, lk_b42, lk_b43, lk_b44, lk_b45, lk_b46, lk_b47, lk_b48, lk_b49, lk_b50, lk_b51, lk_b52, lk_b53, lk_b54, lk_b55, lk_b56, lk_b57, lk_b58, lk_b59, lk_b60, lk_b61, lk_b62, lk_b63, lk_b64, lk_b65, lk_b66, lk_b67, lk_b68, lk_b69, lk_b70, lk_b71, lk_b72, lk_b73, lk_b74, lk_b75, lk_b76, lk_b77, lk_b78, lk_b79, lk_b80, lk_b81, lk_b82, lk_b83, lk_b84, lk_b85, lk_b86, lk_b87, lk_b88, lk_b89, lk_b90, lk_b91, lk_b92, lk_b93, lk_b94, lk_b95, lk_b96, lk_b97, lk_b98, lk_b99, lk_b100, lk_b101, lk_b102, lk_b103, lk_b104, lk_b105, lk_b106, lk_b107, lk_b108, lk_b109, lk_b110, lk_b111, lk_b112, lk_b113, lk_b114, lk_b115, lk_b116, lk_b117, lk_b118, lk_b119, lk_b120, lk_b121, lk_b122, lk_b123, lk_b124, lk_b125, lk_b126, lk_b127, lk_b128, lk_b129, lk_b130, lk_b131, lk_b132, lk_b133, lk_b134, lk_b135, lk_b136, lk_b137, lk_b138, lk_b139, lk_b140, lk_b141, lk_b142, lk_b143, lk_b144, lk_b145, lk_b146, lk_b147, lk_b148, lk_b149, lk_b150, lk_b151, lk_b152, lk_b153, lk_b154, lk_b155, lk_b156, lk_b157, lk_b158, lk_b159, lk_b160, lk_b161, lk_b162, lk_b163, lk_b164, lk_b165, lk_b166, lk_b167, lk_b168, lk_b169, lk_b170, lk_b171, lk_b172, lk_b173, lk_b174]
def lk_mt : List lk_M := [(yX0_init, cX0_init, 2, ((none))), (yX0_toldKind, cX0_toldKind, 1, ((some FieldType.int))), (yX0_askMark, cX0_askMark, 2, ((some FieldType.int))), (yX1_init, cX1_init, 2, ((none))), (yX1_searched, cX1_searched, 2, ((some (FieldType.object "LonelyDots$LonelyList")))), (yX1_columnsOf, cX1_columnsOf, 5, ((some (FieldType.array FieldType.int)))), (yX1_search, cX1_search, 3, ((none))), (yX1_isLonelyUpTo, cX1_isLonelyUpTo, 5, ((some FieldType.boolean))), (yX1_keep, cX1_keep, 1, ((none))), (yX1_isFirstOfItsTurns, cX1_isFirstOfItsTurns, 3, ((some FieldType.boolean))), (yX1_code, cX1_code, 6, ((some FieldType.int))), (yX2_init, cX2_init, 2, ((none))), (yX2_told, cX2_told, 2, ((some (FieldType.object "LonelyDots$Marks")))), (yX2_rise, cX2_rise, 6, ((some FieldType.boolean))), (yX2_hasAllDistances, cX2_hasAllDistances, 2, ((some FieldType.boolean))), (yX2_toldKind, cX2_toldKind, 1, ((some FieldType.int))), (yX2_secondAlike, cX2_secondAlike, 6, ((some FieldType.int))), (yX2_askSize, cX2_askSize, 2, ((some FieldType.int))), (yX2_askMark, cX2_askMark, 2, ((some FieldType.int))), (yX3_init, cX3_init, 1, ((none))), (yX3_meetingDots, cX3_meetingDots, 7, ((some FieldType.int))), (yX3_mostOfTwo, cX3_mostOfTwo, 5, ((some FieldType.int))), (yX3_mostWithItself, cX3_mostWithItself, 4, ((some FieldType.int))), (yX3_mostMovedByRows, cX3_mostMovedByRows, 8, ((some FieldType.int))), (yX3_partOfEcho, cX3_partOfEcho, 7, ((some FieldType.int))), (yX3_tallyFits, cX3_tallyFits, 7, ((none))), (yX3_firstBest, cX3_firstBest, 3, ((some FieldType.int))), (yX4_init, cX4_init, 2, ((none))), (yX4_told, cX4_told, 2, ((some (FieldType.object "LonelyDots$Order")))), (yX4_hasEachColumnOnce, cX4_hasEachColumnOnce, 6, ((some FieldType.boolean))), (yX4_turnInto, cX4_turnInto, 7, ((none))), (yX4_toldKind, cX4_toldKind, 1, ((some FieldType.int))), (yX4_secondAlike, cX4_secondAlike, 5, ((some FieldType.int))), (yX4_askSize, cX4_askSize, 2, ((some FieldType.int))), (yX4_hasDotInCorner, cX4_hasDotInCorner, 5, ((some FieldType.boolean))), (yX4_columnsWithoutCorner, cX4_columnsWithoutCorner, 6, ((some (FieldType.array FieldType.int)))), (yX4_columnsWithCorner, cX4_columnsWithCorner, 7, ((some (FieldType.array FieldType.int)))), (yX4_isBelow, cX4_isBelow, 1, ((some FieldType.boolean))), (yX4_isRight, cX4_isRight, 1, ((some FieldType.boolean))), (yX5_init, cX5_init, 2, ((none))), (yX5_toldKind, cX5_toldKind, 1, ((some FieldType.int))), (yX5_askSize, cX5_askSize, 2, ((some FieldType.int))), (yX6_init, cX6_init, 2, ((none))), (yX6_toldKind, cX6_toldKind, 1, ((some FieldType.int))), (yX6_askSize, cX6_askSize, 2, ((some FieldType.int))), (yX7_init, cX7_init, 1, ((none))), (yX7_leastGreatestMark, cX7_leastGreatestMark, 2, ((some FieldType.int))), (yX7_search, cX7_search, 5, ((none))), (yX7_hasNewDistances, cX7_hasNewDistances, 4, ((some FieldType.boolean))), (yX7_mindDistances, cX7_mindDistances, 5, ((none))), (yX8_init, cX8_init, 1, ((none))), (yX8_lay, cX8_lay, 3, ((none))), (yX8_holds, cX8_holds, 3, ((some FieldType.boolean))), (yX8_narrowed, cX8_narrowed, 2, ((some FieldType.int))), (yX8_read, cX8_read, 3, ((some (FieldType.array FieldType.int)))), (yX9_init, cX9_init, 2, ((none))), (yX9_askSize, cX9_askSize, 2, ((some FieldType.int))), (yX9_askMark, cX9_askMark, 2, ((some FieldType.int))), (yX9_partOfAlike, cX9_partOfAlike, 5, ((some FieldType.int))), (yX9_laterFirst, cX9_laterFirst, 4, ((some FieldType.int))), (yX9_partOfPairs, cX9_partOfPairs, 5, ((some FieldType.int))), (yX10_init, cX10_init, 1, ((none))), (yX10_empty, cX10_empty, 1, ((none))), (yX10_begin, cX10_begin, 2, ((none))), (yX10_number, cX10_number, 2, ((some FieldType.int))), (yX11_init, cX11_init, 2, ((none))), (yX11_sheet, cX11_sheet, 4, ((some FieldType.int))), (yX11_set, cX11_set, 5, ((some FieldType.int))), (yX11_copy, cX11_copy, 8, ((some FieldType.int))), (yX11_drop, cX11_drop, 3, ((some FieldType.int))), (yX11_order, cX11_order, 7, ((some FieldType.int))), (yX11_marks, cX11_marks, 7, ((some FieldType.int))), (yX11_powers, cX11_powers, 5, ((some FieldType.int))), (yX11_sums, cX11_sums, 5, ((some FieldType.int))), (yX11_take, cX11_take, 5, ((some FieldType.int))), (yX11_put, cX11_put, 5, ((some FieldType.int))), (yX11_turn, cX11_turn, 6, ((some FieldType.int))), (yX11_nth, cX11_nth, 5, ((some FieldType.int))), (yX11_clear, cX11_clear, 3, ((some FieldType.int))), (yX11_kind, cX11_kind, 3, ((some FieldType.int))), (yX11_is, cX11_is, 3, ((some FieldType.int))), (yX11_as, cX11_as, 4, ((some FieldType.int))), (yX11_ask, cX11_ask, 4, ((some FieldType.int))), (yX11_trace, cX11_trace, 2, ((some FieldType.int))), (yX11_at, cX11_at, 4, ((some FieldType.int))), (yX11_alike, cX11_alike, 4, ((some FieldType.int))), (yX11_meeting, cX11_meeting, 7, ((some FieldType.int))), (yX11_most, cX11_most, 3, ((some FieldType.int))), (yX11_together, cX11_together, 5, ((some FieldType.int))), (yX11_echo, cX11_echo, 8, ((some FieldType.int))), (yX11_lonely, cX11_lonely, 4, ((some FieldType.int))), (yX11_shortest, cX11_shortest, 2, ((some FieldType.int))), (yX11_count, cX11_count, 2, ((some FieldType.int))), (yX11_status, cX11_status, 1, ((some FieldType.int))), (yX11_isSheet, cX11_isSheet, 1, ((some FieldType.boolean))), (yX11_isPlace, cX11_isPlace, 1, ((some FieldType.boolean))), (yX11_found, cX11_found, 2, ((some FieldType.int))), (yX11_settled, cX11_settled, 2, ((some FieldType.int))), (yX11_shelve, cX11_shelve, 3, ((some FieldType.int))), (yX11_findingOfItems, cX11_findingOfItems, 4, ((some FieldType.int))), (yX11_orderAt, cX11_orderAt, 3, ((some (FieldType.object "LonelyDots$Order")))), (yX11_findingOfNoOrder, cX11_findingOfNoOrder, 2, ((some FieldType.int))), (yX11_isOfKind, cX11_isOfKind, 2, ((some FieldType.boolean))), (yX11_sheetsThere, cX11_sheetsThere, 3, ((some FieldType.int))), (yX11_thingsOfKind, cX11_thingsOfKind, 4, ((some FieldType.int))), (yX11_lonelyList, cX11_lonelyList, 2, ((some (FieldType.object "LonelyDots$LonelyList")))), (yX11_isPrime, cX11_isPrime, 2, ((some FieldType.boolean))), (yX11_isRoot, cX11_isRoot, 2, ((some FieldType.boolean))), (yX11_exponent, cX11_exponent, 5, ((some FieldType.int))), (yX11_columnsByPowers, cX11_columnsByPowers, 6, ((some (FieldType.array FieldType.int)))), (yX11_columnsBySums, cX11_columnsBySums, 6, ((some (FieldType.array FieldType.int)))), (yX12_init, cX12_init, 1, ((none))), (yX12_in, cX12_in, 6, ((some FieldType.boolean))), (yX12_finds, cX12_finds, 2, ((some FieldType.int))), (yX12_well, cX12_well, 2, ((some FieldType.int))), (yX12_isSheet, cX12_isSheet, 1, ((some FieldType.boolean))), (yX12_sheet, cX12_sheet, 5, ((some FieldType.int))), (yX12_set, cX12_set, 5, ((some FieldType.int))), (yX12_copy, cX12_copy, 7, ((some FieldType.int))), (yX12_drop, cX12_drop, 2, ((some FieldType.int))), (yX12_isPlace, cX12_isPlace, 1, ((some FieldType.boolean))), (yX12_isOf, cX12_isOf, 2, ((some FieldType.boolean))), (yX12_at0, cX12_at0, 3, ((some FieldType.int))), (yX12_areAlike, cX12_areAlike, 7, ((some FieldType.boolean))), (yX12_findAlike, cX12_findAlike, 8, ((some FieldType.boolean))), (yX12_hasAll, cX12_hasAll, 7, ((some FieldType.boolean))), (yX12_copyThing, cX12_copyThing, 4, ((none))), (yX12_keep, cX12_keep, 4, ((some FieldType.int))), (yX12_make, cX12_make, 3, ((none))), (yX12_order, cX12_order, 7, ((some FieldType.int))), (yX12_marks, cX12_marks, 7, ((some FieldType.int))), (yX12_isPrime, cX12_isPrime, 1, ((some FieldType.boolean))), (yX12_isRoot, cX12_isRoot, 4, ((some FieldType.boolean))), (yX12_power, cX12_power, 5, ((some FieldType.int))), (yX12_powers, cX12_powers, 6, ((some FieldType.int))), (yX12_sums, cX12_sums, 7, ((some FieldType.int))), (yX12_refusal, cX12_refusal, 3, ((some FieldType.int))), (yX12_take, cX12_take, 9, ((some FieldType.int))), (yX12_put, cX12_put, 7, ((some FieldType.int))), (yX12_turned, cX12_turned, 6, ((some FieldType.int))), (yX12_turned4, cX12_turned4, 6, ((some FieldType.int))), (yX12_turn, cX12_turn, 6, ((some FieldType.int))), (yX12_first, cX12_first, 3, ((none))), (yX12_next, cX12_next, 7, ((some FieldType.boolean))), (yX12_nth, cX12_nth, 6, ((some FieldType.int))), (yX12_clear, cX12_clear, 3, ((some FieldType.int))), (yX12_kind, cX12_kind, 2, ((some FieldType.int))), (yX12_is, cX12_is, 3, ((some FieldType.int))), (yX12_as, cX12_as, 4, ((some FieldType.int))), (yX12_begins, cX12_begins, 2, ((none))), (yX12_countMarks, cX12_countMarks, 2, ((some FieldType.int))), (yX12_sizeOf, cX12_sizeOf, 4, ((some FieldType.int))), (yX12_mark, cX12_mark, 4, ((some FieldType.int))), (yX12_ask, cX12_ask, 3, ((some FieldType.int))), (yX12_trace, cX12_trace, 2, ((some FieldType.int))), (yX12_at, cX12_at, 3, ((some FieldType.int))), (yX12_alike, cX12_alike, 4, ((some FieldType.int))), (yX12_meet, cX12_meet, 7, ((some FieldType.int))), (yX12_isMove, cX12_isMove, 1, ((some FieldType.boolean))), (yX12_meeting, cX12_meeting, 6, ((some FieldType.int))), (yX12_greatest, cX12_greatest, 8, ((some FieldType.int))), (yX12_most, cX12_most, 3, ((some FieldType.int))), (yX12_together, cX12_together, 4, ((some FieldType.int))), (yX12_echo, cX12_echo, 18, ((some FieldType.int))), (yX12_isLeast, cX12_isLeast, 4, ((some FieldType.boolean))), (yX12_lonely, cX12_lonely, 4, ((some FieldType.int))), (yX12_canBe, cX12_canBe, 6, ((some FieldType.boolean))), (yX12_shortest, cX12_shortest, 3, ((some FieldType.int))), (yX12_count, cX12_count, 4, ((some FieldType.int))), (yX12_status, cX12_status, 1, ((some FieldType.int))), (yJ7_fill_53178, cJ7_fill_53178, 4, ((none))), (yJ7_checkLength_df160, cJ7_checkLength_df160, 2, ((none))), (yJ7_copyOfRange_feecc, cJ7_copyOfRange_feecc, 3, ((some (FieldType.array FieldType.int)))), (yJ7_copyOfRangeInt_feecc, cJ7_copyOfRangeInt_feecc, 5, ((some (FieldType.array FieldType.int)))), (yL_law, cL_law, 4, (some .boolean))]
/-- methods as calls name them: the name, who declares it, how many parameters, whether the tables say so without its code -/
def lk_xn : List (MethodName × String × Nat × Nat) := [(⟨"LonelyDots$Order", "<init>", "([I)V"⟩, "LonelyDots$Order", 1, 0), (⟨"LonelyDots$Trace", "begin", "(I)V"⟩, "LonelyDots$Trace", 1, 0), (⟨"LonelyDots$Order", "askMark", "(LLonelyDots$Trace;)I"⟩, "LonelyDots$Thing", 1, 0), (⟨"LonelyDots$LonelyList", "<init>", "(I)V"⟩, "LonelyDots$LonelyList", 1, 0), (⟨"LonelyDots$LonelyList", "search", "(LLonelyDots$LonelyList;I)V"⟩, "LonelyDots$LonelyList", 2, 0), (⟨"LonelyDots$LonelyList", "keep", "()V"⟩, "LonelyDots$LonelyList", 0, 0), (⟨"LonelyDots$LonelyList", "isLonelyUpTo", "(I)Z"⟩, "LonelyDots$LonelyList", 1, 0), (⟨"LonelyDots$LonelyList", "code", "([I)I"⟩, "LonelyDots$LonelyList", 1, 0), (⟨"LonelyDots$LonelyList", "isFirstOfItsTurns", "()Z"⟩, "LonelyDots$LonelyList", 0, 0), (⟨"LonelyDots$Order", "turnInto", "([I[II)V"⟩, "LonelyDots$Order", 3, 0), (⟨"LonelyDots$Thing", "<init>", "([I)V"⟩, "LonelyDots$Thing", 1, 0), (⟨"LonelyDots$Marks", "<init>", "([I)V"⟩, "LonelyDots$Marks", 1, 0), (⟨"LonelyDots$Marks", "partOfAlike", "(I)I"⟩, "LonelyDots$Thing", 1, 1), (⟨"LonelyDots$Marks", "hasAllDistances", "()Z"⟩, "LonelyDots$Marks", 0, 16), (⟨"LonelyDots$Perfect", "<init>", "([I)V"⟩, "LonelyDots$Perfect", 1, 0), (⟨"LonelyDots$Ruler", "<init>", "([I)V"⟩, "LonelyDots$Ruler", 1, 0), (⟨"LonelyDots$Thing", "askSize", "(LLonelyDots$Trace;)I"⟩, "LonelyDots$Thing", 1, 0), (⟨"LonelyDots$Moves", "mostMovedByRows", "([I[II)I"⟩, "LonelyDots$Moves", 3, 0), (⟨"java/util/Arrays", "fill", "([II)V"⟩, "java/util/Arrays", 2, 0), (⟨"LonelyDots$Moves", "tallyFits", "([III)V"⟩, "LonelyDots$Moves", 3, 0), (⟨"LonelyDots$Moves", "firstBest", "()I"⟩, "LonelyDots$Moves", 0, 0), (⟨"LonelyDots$Order", "partOfAlike", "(I)I"⟩, "LonelyDots$Thing", 1, 1), (⟨"LonelyDots$Lonely", "<init>", "([I)V"⟩, "LonelyDots$Lonely", 1, 0), (⟨"LonelyDots$Order", "isBelow", "(I)Z"⟩, "LonelyDots$Order", 1, 0), (⟨"LonelyDots$Order", "isRight", "(I)Z"⟩, "LonelyDots$Order", 1, 0), (⟨"LonelyDots$Ruler", "askSize", "(LLonelyDots$Trace;)I"⟩, "LonelyDots$Ruler", 1, 0), (⟨"LonelyDots$Perfect", "askMark", "(LLonelyDots$Trace;)I"⟩, "LonelyDots$Marks", 1, 1), (⟨"LonelyDots$Marks", "askSize", "(LLonelyDots$Trace;)I"⟩, "LonelyDots$Marks", 1, 0), (⟨"LonelyDots$RulerSearch", "search", "(LLonelyDots$RulerSearch;II)V"⟩, "LonelyDots$RulerSearch", 3, 0), (⟨"LonelyDots$RulerSearch", "hasNewDistances", "(II)Z"⟩, "LonelyDots$RulerSearch", 2, 0), (⟨"LonelyDots$RulerSearch", "mindDistances", "(IIZ)V"⟩, "LonelyDots$RulerSearch", 3, 0), (⟨"java/util/Arrays", "copyOfRange", "([III)[I"⟩, "java/util/Arrays", 3, 0), (⟨"LonelyDots$Thing", "askSize", "(LLonelyDots$Trace;)I"⟩, "LonelyDots$Thing", 1, 58), (⟨"LonelyDots$Thing", "laterFirst", "(II)I"⟩, "LonelyDots$Thing", 2, 61), (⟨"LonelyDots$Thing", "partOfPairs", "(IIII)I"⟩, "LonelyDots$Thing", 4, 62), (⟨"LonelyDots$Thing", "secondAlike", "(III)I"⟩, "LonelyDots$Thing", 3, 1), (⟨"LonelyDots$Trace", "<init>", "()V"⟩, "LonelyDots", 0, 0), (⟨"LonelyDots$Moves", "<init>", "()V"⟩, "LonelyDots", 0, 0), (⟨"LonelyDots$RulerSearch", "<init>", "()V"⟩, "LonelyDots$RulerSearch", 0, 0), (⟨"LonelyDots$Sheet", "<init>", "()V"⟩, "LonelyDots", 0, 0), (⟨"LonelyDots", "isSheet", "(I)Z"⟩, "LonelyDots", 1, 0), (⟨"LonelyDots", "found", "(I)I"⟩, "LonelyDots", 1, 0), (⟨"LonelyDots$Sheet", "lay", "(II)V"⟩, "LonelyDots$Sheet", 2, 0), (⟨"LonelyDots", "settled", "(I)I"⟩, "LonelyDots", 1, 0), (⟨"LonelyDots$Sheet", "holds", "(II)Z"⟩, "LonelyDots$Sheet", 2, 0), (⟨"LonelyDots$Sheet", "narrowed", "(I)I"⟩, "LonelyDots$Sheet", 1, 0), (⟨"LonelyDots", "isPlace", "(I)Z"⟩, "LonelyDots", 1, 0), (⟨"LonelyDots", "findingOfItems", "(III)I"⟩, "LonelyDots", 3, 0), (⟨"LonelyDots$Sheet", "read", "(II)[I"⟩, "LonelyDots$Sheet", 2, 0), (⟨"LonelyDots$Order", "hasEachColumnOnce", "([I)Z"⟩, "LonelyDots$Order", 1, 0), (⟨"LonelyDots$Order", "told", "([I)LLonelyDots$Order;"⟩, "LonelyDots$Order", 1, 0), (⟨"LonelyDots", "shelve", "(ILLonelyDots$Thing;)I"⟩, "LonelyDots", 2, 0), (⟨"LonelyDots$Marks", "rise", "([I)Z"⟩, "LonelyDots$Marks", 1, 0), (⟨"LonelyDots$Marks", "told", "([I)LLonelyDots$Marks;"⟩, "LonelyDots$Marks", 1, 0), (⟨"LonelyDots", "isPrime", "(I)Z"⟩, "LonelyDots", 1, 0), (⟨"LonelyDots", "isRoot", "(II)Z"⟩, "LonelyDots", 2, 0), (⟨"LonelyDots", "columnsByPowers", "(III)[I"⟩, "LonelyDots", 3, 0), (⟨"LonelyDots", "columnsBySums", "(III)[I"⟩, "LonelyDots", 3, 0), (⟨"LonelyDots", "orderAt", "(I)LLonelyDots$Order;"⟩, "LonelyDots", 1, 0), (⟨"LonelyDots", "findingOfNoOrder", "(I)I"⟩, "LonelyDots", 1, 0), (⟨"LonelyDots$Order", "hasDotInCorner", "(I)Z"⟩, "LonelyDots$Order", 1, 36), (⟨"LonelyDots$Order", "columnsWithoutCorner", "(I)[I"⟩, "LonelyDots$Order", 1, 37), (⟨"LonelyDots$Order", "columnsWithCorner", "(I)[I"⟩, "LonelyDots$Order", 1, 38), (⟨"LonelyDots", "lonelyList", "(I)LLonelyDots$LonelyList;"⟩, "LonelyDots", 1, 0), (⟨"LonelyDots$LonelyList", "columnsOf", "(I)[I"⟩, "LonelyDots$LonelyList", 1, 0), (⟨"LonelyDots$Thing", "toldKind", "()I"⟩, "LonelyDots$Thing", 0, 1), (⟨"LonelyDots", "isOfKind", "(LLonelyDots$Thing;I)Z"⟩, "LonelyDots", 2, 0), (⟨"LonelyDots$Trace", "empty", "()V"⟩, "LonelyDots$Trace", 0, 0), (⟨"LonelyDots$Thing", "askMark", "(LLonelyDots$Trace;)I"⟩, "LonelyDots$Thing", 1, 1), (⟨"LonelyDots$Trace", "number", "(I)I"⟩, "LonelyDots$Trace", 1, 0), (⟨"LonelyDots$Thing", "partOfAlike", "(I)I"⟩, "LonelyDots$Thing", 1, 1), (⟨"LonelyDots$Moves", "meetingDots", "([I[III)I"⟩, "LonelyDots$Moves", 4, 0), (⟨"LonelyDots$Moves", "mostWithItself", "([I)I"⟩, "LonelyDots$Moves", 1, 0), (⟨"LonelyDots$Moves", "mostOfTwo", "([I[I)I"⟩, "LonelyDots$Moves", 2, 0), (⟨"LonelyDots$Moves", "partOfEcho", "(I[I[III)I"⟩, "LonelyDots$Moves", 5, 0), (⟨"LonelyDots$RulerSearch", "leastGreatestMark", "(I)I"⟩, "LonelyDots$RulerSearch", 1, 0), (⟨"LonelyDots", "sheetsThere", "()I"⟩, "LonelyDots", 0, 0), (⟨"LonelyDots", "thingsOfKind", "(I)I"⟩, "LonelyDots", 1, 0), (⟨"LonelyDots$LonelyList", "searched", "(I)LLonelyDots$LonelyList;"⟩, "LonelyDots$LonelyList", 1, 0), (⟨"LonelyDots", "exponent", "(III)I"⟩, "LonelyDots", 3, 0), (⟨"LonelyDotsModel", "in", "(JJJ)Z"⟩, "LonelyDotsModel", 3, 0), (⟨"LonelyDotsModel", "isSheet", "(I)Z"⟩, "LonelyDotsModel", 1, 0), (⟨"LonelyDotsModel", "finds", "(I)I"⟩, "LonelyDotsModel", 1, 0), (⟨"LonelyDotsModel", "well", "(I)I"⟩, "LonelyDotsModel", 1, 0), (⟨"LonelyDotsModel", "at0", "(II)I"⟩, "LonelyDotsModel", 2, 0), (⟨"LonelyDotsModel", "areAlike", "(IZIIII)Z"⟩, "LonelyDotsModel", 6, 0), (⟨"LonelyDotsModel", "findAlike", "(IZ)Z"⟩, "LonelyDotsModel", 2, 0), (⟨"LonelyDotsModel", "hasAll", "(I)Z"⟩, "LonelyDotsModel", 1, 0), (⟨"LonelyDotsModel", "copyThing", "(II)V"⟩, "LonelyDotsModel", 2, 0), (⟨"LonelyDotsModel", "isPlace", "(I)Z"⟩, "LonelyDotsModel", 1, 0), (⟨"LonelyDotsModel", "make", "(II)V"⟩, "LonelyDotsModel", 2, 0), (⟨"LonelyDotsModel", "keep", "(IZ)I"⟩, "LonelyDotsModel", 2, 0), (⟨"LonelyDotsModel", "isPrime", "(I)Z"⟩, "LonelyDotsModel", 1, 0), (⟨"LonelyDotsModel", "isRoot", "(II)Z"⟩, "LonelyDotsModel", 2, 0), (⟨"LonelyDotsModel", "power", "(III)I"⟩, "LonelyDotsModel", 3, 0), (⟨"LonelyDotsModel", "isOf", "(II)Z"⟩, "LonelyDotsModel", 2, 0), (⟨"LonelyDotsModel", "refusal", "(II)I"⟩, "LonelyDotsModel", 2, 0), (⟨"LonelyDotsModel", "turned4", "(III)I"⟩, "LonelyDotsModel", 3, 0), (⟨"LonelyDotsModel", "turned", "(III)I"⟩, "LonelyDotsModel", 3, 0), (⟨"LonelyDotsModel", "first", "(I)V"⟩, "LonelyDotsModel", 1, 0), (⟨"LonelyDotsModel", "next", "()Z"⟩, "LonelyDotsModel", 0, 0), (⟨"LonelyDotsModel", "begins", "(I)V"⟩, "LonelyDotsModel", 1, 0), (⟨"LonelyDotsModel", "countMarks", "(I)I"⟩, "LonelyDotsModel", 1, 0), (⟨"LonelyDotsModel", "sizeOf", "(I)I"⟩, "LonelyDotsModel", 1, 0), (⟨"LonelyDotsModel", "mark", "(I)I"⟩, "LonelyDotsModel", 1, 0), (⟨"LonelyDotsModel", "isMove", "(I)Z"⟩, "LonelyDotsModel", 1, 0), (⟨"LonelyDotsModel", "meet", "(IIII)I"⟩, "LonelyDotsModel", 4, 0), (⟨"LonelyDotsModel", "greatest", "(IIZ)I"⟩, "LonelyDotsModel", 3, 0), (⟨"LonelyDotsModel", "isLeast", "()Z"⟩, "LonelyDotsModel", 0, 0), (⟨"LonelyDotsModel", "canBe", "(II)Z"⟩, "LonelyDotsModel", 2, 0), (⟨"java/util/Arrays", "copyOfRangeInt", "([III)[I"⟩, "java/util/Arrays", 3, 0), (⟨"java/util/Arrays", "checkLength", "(II)V"⟩, "java/util/Arrays", 2, 0), (⟨"LonelyDots", "<init>", "()V"⟩, "LonelyDots", 0, 0), (⟨"LonelyDotsModel", "<init>", "()V"⟩, "LonelyDotsModel", 0, 0), (⟨"LonelyDots", "sheet", "(III)I"⟩, "LonelyDots", 3, 0), (⟨"LonelyDotsModel", "sheet", "(III)I"⟩, "LonelyDotsModel", 3, 0), (⟨"LonelyDots", "set", "(III)I"⟩, "LonelyDots", 3, 0), (⟨"LonelyDotsModel", "set", "(III)I"⟩, "LonelyDotsModel", 3, 0), (⟨"LonelyDots", "copy", "(IIIII)I"⟩, "LonelyDots", 5, 0), (⟨"LonelyDotsModel", "copy", "(IIIII)I"⟩, "LonelyDotsModel", 5, 0), (⟨"LonelyDots", "drop", "(I)I"⟩, "LonelyDots", 1, 0), (⟨"LonelyDotsModel", "drop", "(I)I"⟩, "LonelyDotsModel", 1, 0), (⟨"LonelyDots", "order", "(IIII)I"⟩, "LonelyDots", 4, 0), (⟨"LonelyDotsModel", "order", "(IIII)I"⟩, "LonelyDotsModel", 4, 0), (⟨"LonelyDots", "marks", "(IIII)I"⟩, "LonelyDots", 4, 0), (⟨"LonelyDotsModel", "marks", "(IIII)I"⟩, "LonelyDotsModel", 4, 0), (⟨"LonelyDots", "powers", "(IIII)I"⟩, "LonelyDots", 4, 0), (⟨"LonelyDotsModel", "powers", "(IIII)I"⟩, "LonelyDotsModel", 4, 0), (⟨"LonelyDots", "sums", "(IIII)I"⟩, "LonelyDots", 4, 0), (⟨"LonelyDotsModel", "sums", "(IIII)I"⟩, "LonelyDotsModel", 4, 0), (⟨"LonelyDots", "take", "(III)I"⟩, "LonelyDots", 3, 0), (⟨"LonelyDotsModel", "take", "(III)I"⟩, "LonelyDotsModel", 3, 0), (⟨"LonelyDots", "put", "(III)I"⟩, "LonelyDots", 3, 0), (⟨"LonelyDotsModel", "put", "(III)I"⟩, "LonelyDotsModel", 3, 0), (⟨"LonelyDots", "turn", "(III)I"⟩, "LonelyDots", 3, 0), (⟨"LonelyDotsModel", "turn", "(III)I"⟩, "LonelyDotsModel", 3, 0), (⟨"LonelyDots", "nth", "(III)I"⟩, "LonelyDots", 3, 0), (⟨"LonelyDotsModel", "nth", "(III)I"⟩, "LonelyDotsModel", 3, 0), (⟨"LonelyDots", "clear", "(I)I"⟩, "LonelyDots", 1, 0), (⟨"LonelyDotsModel", "clear", "(I)I"⟩, "LonelyDotsModel", 1, 0), (⟨"LonelyDots", "kind", "(I)I"⟩, "LonelyDots", 1, 0), (⟨"LonelyDotsModel", "kind", "(I)I"⟩, "LonelyDotsModel", 1, 0), (⟨"LonelyDots", "is", "(II)I"⟩, "LonelyDots", 2, 0), (⟨"LonelyDotsModel", "is", "(II)I"⟩, "LonelyDotsModel", 2, 0), (⟨"LonelyDots", "as", "(II)I"⟩, "LonelyDots", 2, 0), (⟨"LonelyDotsModel", "as", "(II)I"⟩, "LonelyDotsModel", 2, 0), (⟨"LonelyDots", "ask", "(II)I"⟩, "LonelyDots", 2, 0), (⟨"LonelyDotsModel", "ask", "(II)I"⟩, "LonelyDotsModel", 2, 0), (⟨"LonelyDots", "trace", "(I)I"⟩, "LonelyDots", 1, 0), (⟨"LonelyDotsModel", "trace", "(I)I"⟩, "LonelyDotsModel", 1, 0), (⟨"LonelyDots", "at", "(II)I"⟩, "LonelyDots", 2, 0), (⟨"LonelyDotsModel", "at", "(II)I"⟩, "LonelyDotsModel", 2, 0), (⟨"LonelyDots", "alike", "(II)I"⟩, "LonelyDots", 2, 0), (⟨"LonelyDotsModel", "alike", "(II)I"⟩, "LonelyDotsModel", 2, 0), (⟨"LonelyDots", "meeting", "(IIII)I"⟩, "LonelyDots", 4, 0), (⟨"LonelyDotsModel", "meeting", "(IIII)I"⟩, "LonelyDotsModel", 4, 0), (⟨"LonelyDots", "most", "(I)I"⟩, "LonelyDots", 1, 0), (⟨"LonelyDotsModel", "most", "(I)I"⟩, "LonelyDotsModel", 1, 0), (⟨"LonelyDots", "together", "(II)I"⟩, "LonelyDots", 2, 0), (⟨"LonelyDotsModel", "together", "(II)I"⟩, "LonelyDotsModel", 2, 0), (⟨"LonelyDots", "echo", "(IIIII)I"⟩, "LonelyDots", 5, 0), (⟨"LonelyDotsModel", "echo", "(IIIII)I"⟩, "LonelyDotsModel", 5, 0), (⟨"LonelyDots", "lonely", "(II)I"⟩, "LonelyDots", 2, 0), (⟨"LonelyDotsModel", "lonely", "(II)I"⟩, "LonelyDotsModel", 2, 0), (⟨"LonelyDots", "shortest", "(I)I"⟩, "LonelyDots", 1, 0), (⟨"LonelyDotsModel", "shortest", "(I)I"⟩, "LonelyDotsModel", 1, 0), (⟨"LonelyDots", "count", "(I)I"⟩, "LonelyDots", 1, 0), (⟨"LonelyDotsModel", "count", "(I)I"⟩, "LonelyDotsModel", 1, 0), (⟨"LonelyDots", "status", "()I"⟩, "LonelyDots", 0, 0), (⟨"LonelyDotsModel", "status", "()I"⟩, "LonelyDotsModel", 0, 0)]
def lk_ins (j pc : Nat) : Option lk_E := match lk_codes[j]? with
  | some l => match l[pc]? with
    | some (some e) => some e
    | _ => none
  | none => none
end
section
/-! THE RUN of the small machine -/
def lk_pop : Nat → List Value → List Value → Option (List Value × List Value)
  | 0, acc, st => some (acc, st)
  | _ + 1, _, [] => none
  | n + 1, acc, v :: st => lk_pop n (v :: acc) st
theorem lk_pop_inv : ∀ (n : Nat) (acc st as r : List Value), lk_pop n acc st = some (as, r) → ∃ bs, as = bs ++ acc ∧ bs.length = n ∧ st = bs.reverse ++ r := by
  intro n
  induction n with
  | zero =>
    intro acc st as r h
    cases h
    exact ⟨[], rfl, rfl, rfl⟩
  | succ n ih =>
    intro acc st as r h
    cases st with
    | nil => cases h
    | cons v st =>
      obtain ⟨bs, h1, h2, h3⟩ := ih (v :: acc) st as r h
      refine ⟨bs ++ [v], by rw [h1]; simp, by simp [h2], by rw [h3]; simp⟩
/-- which method a call calls, with which arguments, and what is left on the stack -/
def lk_callee (I : Instr) (inf : lk_I) (st : List Value) (h : lk_H) : Option (Nat × List Value × List Value) := match inf.2.2 with
  | .ref xi => match lk_xn[xi]? with
    | some X => match I with
      | .invokestatic _ => match inf.2.1 with
        | q :: _ => (lk_pop X.2.2.1 [] st).map (fun a => (q.2, a.1, a.2))
        | [] => none
      | .invokevirtual _ => match lk_pop X.2.2.1 [] st with
        | some (as, .ref a :: r) => match h[a]? with
          | some (.inr (c, _)) => (lk_find inf.2.1 c).map (fun k => (k, .ref a :: as, r))
          | _ => none
        | _ => none
      | .invokespecial _ => match lk_pop X.2.2.1 [] st with
        | some (as, .ref a :: r) => match inf.2.1 with
          | q :: _ => (match h[a]? with
            | some (.inr _) => some (q.2, .ref a :: as, r)
            | _ => none)
          | [] => none
        | _ => none
      | _ => none
    | none => none
  | _ => none
def lk_ret (ret : Option FieldType) (I : Instr) (st : List Value) : Option (Option Value) := match I with
  | .ireturn => match st with
    | [.int v] => match ret with
      | some .int => some (some (.int v))
      | some .boolean => if v = 0 ∨ v = 1 then some (some (.int v)) else none
      | _ => none
    | _ => none
  | .areturn => match ret with
    | some (.object _) => match st with
      | [.ref a] => some (some (.ref a))
      | [.null] => some (some .null)
      | _ => none
    | some (.array _) => match st with
      | [.ref a] => some (some (.ref a))
      | [.null] => some (some .null)
      | _ => none
    | _ => none
  | .return_ => match st with
    | [] => match ret with
      | none => some none
      | _ => none
    | _ => none
  | _ => none
/-- n: how many instructions at most (of each call that stands open); d: how deep calls may go -/
noncomputable def lk_run (X : lk_X) : Nat → Nat → Nat → Nat → List Value → List Value → lk_H → Option (Option Value × lk_H)
  | 0, _, _, _, _, _, _ => none
  | n + 1, d, j, pc, lo, st, h => match lk_ins j pc with
    | none => none
    | some (I, len, inf) => match lk_mt[j]? with
      | none => none
      | some M => match lk_ret M.2.2.2 I st with
        | some r => some (r, h)
        | none => match lk_callee I inf st h with
          | some (k, as, rest) => match d with
            | 0 => none
            | d + 1 => if (rest.map fun v => v.category).sum ≤ 8 then (match lk_mt[k]? with
              | none => none
              | some K => if (lk_ex as).length ≤ K.2.2.1 then (match lk_run X n d k 0 (lk_ent K.2.2.1 as) [] h with
                | none => none
                | some (v, h1) => lk_run X n (d + 1) j (pc + 3) lo (v.toList ++ rest) h1) else none) else none
          | none => match lk_st1 X I len inf pc lo st h with
            | none => none
            | some (pc', lo', st', h') => lk_run X n d j pc' lo' st' h'
/-- a step keeps cells, or changes one in place, or makes one -/
theorem lk_st1_grow {X : lk_X} {I : Instr} {len : Nat} {inf : lk_I} {pc : Nat} {lo st : List Value} {h : lk_H} {q : lk_S} (hst : lk_st1 X I len inf pc lo st h = some q) :
    q.2.2.2 = h ∨ (∃ a x y, q.2.2.2 = h.set a y ∧ h[a]? = some x ∧ lk_cz y = lk_cz x) ∨ ∃ y, q.2.2.2 = h ++ [y] := by
  have same : ∀ {pc' : Nat} {lo' st' : List Value}, some (pc', lo', st', h) = some q → q.2.2.2 = h := fun e => by cases e; rfl
  cases I
  case iload i => obtain ⟨x, -, rfl⟩ := lk_ldi_inv hst; exact Or.inl rfl
  case iload_n i => obtain ⟨x, -, rfl⟩ := lk_ldi_inv hst; exact Or.inl rfl
  case lload i => obtain ⟨x, -, rfl⟩ := lk_ldl_inv hst; exact Or.inl rfl
  case lload_n i => obtain ⟨x, -, rfl⟩ := lk_ldl_inv hst; exact Or.inl rfl
  case aload i => obtain ⟨x, -, -, -, rfl⟩ := lk_lda_inv hst; exact Or.inl rfl
  case aload_n i => obtain ⟨x, -, -, -, rfl⟩ := lk_lda_inv hst; exact Or.inl rfl
  case istore i => obtain ⟨x, r, lo', rfl, -, rfl⟩ := lk_sti_inv hst; exact Or.inl rfl
  case istore_n i => obtain ⟨x, r, lo', rfl, -, rfl⟩ := lk_sti_inv hst; exact Or.inl rfl
  case lstore i => obtain ⟨x, r, lo', rfl, -, rfl⟩ := lk_stl_inv hst; exact Or.inl rfl
  case astore i => obtain ⟨x, r, lo', rfl, -, -, rfl⟩ := lk_sta_inv hst; exact Or.inl rfl
  case astore_n i => obtain ⟨x, r, lo', rfl, -, -, rfl⟩ := lk_sta_inv hst; exact Or.inl rfl
  case iinc i n => obtain ⟨x, y, lo', -, -, -, rfl⟩ := lk_inc_inv hst; exact Or.inl rfl
  case iadd => obtain ⟨x, y, r, v, rfl, -, rfl⟩ := lk_ii_inv hst; exact Or.inl rfl
  case isub => obtain ⟨x, y, r, v, rfl, -, rfl⟩ := lk_ii_inv hst; exact Or.inl rfl
  case imul => obtain ⟨x, y, r, v, rfl, -, rfl⟩ := lk_ii_inv hst; exact Or.inl rfl
  case idiv => obtain ⟨x, y, r, v, rfl, -, rfl⟩ := lk_ii_inv hst; exact Or.inl rfl
  case irem => obtain ⟨x, y, r, v, rfl, -, rfl⟩ := lk_ii_inv hst; exact Or.inl rfl
  case iand => obtain ⟨x, y, r, v, rfl, -, rfl⟩ := lk_ii_inv hst; exact Or.inl rfl
  case ior => obtain ⟨x, y, r, v, rfl, -, rfl⟩ := lk_ii_inv hst; exact Or.inl rfl
  case ishl => obtain ⟨x, y, r, v, rfl, -, rfl⟩ := lk_ii_inv hst; exact Or.inl rfl
  case ishr => obtain ⟨x, y, r, v, rfl, -, rfl⟩ := lk_ii_inv hst; exact Or.inl rfl
  case ladd => obtain ⟨x, y, r, v, rfl, -, rfl⟩ := lk_ll_inv hst; exact Or.inl rfl
  case lsub => obtain ⟨x, y, r, v, rfl, -, rfl⟩ := lk_ll_inv hst; exact Or.inl rfl
  case lmul => obtain ⟨x, y, r, v, rfl, -, rfl⟩ := lk_ll_inv hst; exact Or.inl rfl
  case lcmp => obtain ⟨x, y, r, v, rfl, -, rfl⟩ := lk_ll_inv hst; exact Or.inl rfl
  case i2l => obtain ⟨x, r, rfl, rfl⟩ := lk_i1_inv hst; exact Or.inl rfl
  case i2b => obtain ⟨x, r, rfl, rfl⟩ := lk_i1_inv hst; exact Or.inl rfl
  case i2s => obtain ⟨x, r, rfl, rfl⟩ := lk_i1_inv hst; exact Or.inl rfl
  case ifCond c off =>
    simp only [lk_st1] at hst
    split at hst
    · cases c <;> simp only [lk_if] at hst <;> split at hst <;> exact Or.inl (same hst)
    · cases hst
  case if_icmp c off =>
    simp only [lk_st1] at hst
    split at hst
    · cases c <;> simp only [lk_if] at hst <;> split at hst <;> exact Or.inl (same hst)
    · cases hst
  case newarray a =>
    cases a <;> simp only [lk_st1] at hst
    case int =>
      unfold lk_newa at hst
      split at hst
      · split at hst
        · cases hst
        · cases hst
          exact Or.inr (Or.inr ⟨_, rfl⟩)
      · cases hst
    case boolean =>
      unfold lk_newa at hst
      split at hst
      · split at hst
        · cases hst
        · cases hst
          exact Or.inr (Or.inr ⟨_, rfl⟩)
      · cases hst
    all_goals cases hst
  all_goals simp only [lk_st1] at hst
  all_goals (first | exact Or.inl (same hst) | skip)
  all_goals try cases hst
  all_goals try simp only [lk_aldi, lk_asti, lk_aldz, lk_astz, lk_alda, lk_asta, lk_len, lk_getf, lk_putf, lk_newq, lk_new, lk_inst, lk_cast, lk_obj, lk_cpy, lk_mm] at hst
  all_goals repeat' (split at hst)
  all_goals (first | (cases hst; done) | exact Or.inl (same hst) | (cases hst; exact Or.inr (Or.inr ⟨_, rfl⟩)) | (cases hst; refine Or.inr (Or.inl ⟨_, _, _, rfl, by assumption, ?_⟩); first | rfl | (simp [lk_cz]; done)) | (obtain ⟨w, -, rfl⟩ := Option.map_eq_some_iff.mp hst; exact Or.inl rfl))
theorem lk_st1_le {X : lk_X} {I : Instr} {len : Nat} {inf : lk_I} {pc : Nat} {lo st : List Value} {h : lk_H} {q : lk_S} (hst : lk_st1 X I len inf pc lo st h = some q) : h.length ≤ q.2.2.2.length ∧ lk_sz h ≤ lk_sz q.2.2.2 := by
  rcases lk_st1_grow hst with e | ⟨a, x, y, e, h1, h2⟩ | ⟨y, e⟩
  · rw [e]; exact ⟨Nat.le_refl _, Nat.le_refl _⟩
  · rw [e, lk_sz_set h1 h2, List.length_set]; exact ⟨Nat.le_refl _, Nat.le_refl _⟩
  · rw [e, lk_sz_app, List.length_append]; exact ⟨Nat.le_add_right _ _, Nat.le_add_right _ _⟩
/-- a run makes cells, and takes none away -/
theorem lk_run_le (X : lk_X) : ∀ (n d j pc : Nat) (lo st : List Value) (h : lk_H) (v : Option Value) (h' : lk_H), lk_run X n d j pc lo st h = some (v, h') → h.length ≤ h'.length ∧ lk_sz h ≤ lk_sz h' := by
  intro n
  induction n with
  | zero => intro d j pc lo st h v h' e; cases e
  | succ n ih =>
    intro d j pc lo st h v h' e
    rw [lk_run] at e
    split at e
    · cases e
    · rename_i I len inf hi
      split at e
      · cases e
      · rename_i M hM
        split at e
        · cases e; exact ⟨Nat.le_refl _, Nat.le_refl _⟩
        · split at e
          · rename_i k as rest hc
            cases d with
            | zero => cases e
            | succ d =>
              dsimp only at e
              split at e
              · split at e
                · cases e
                · rename_i K hK
                  split at e
                  · split at e
                    · cases e
                    · rename_i v1 h1 he
                      have a1 := ih _ _ _ _ _ _ _ _ he
                      have a2 := ih _ _ _ _ _ _ _ _ e
                      exact ⟨Nat.le_trans a1.1 a2.1, Nat.le_trans a1.2 a2.2⟩
                  · cases e
              · cases e
          · split at e
            · cases e
            · rename_i pc' lo' st' h1 he
              have a1 := lk_st1_le he
              have a2 := ih _ _ _ _ _ _ _ _ e
              exact ⟨Nat.le_trans a1.1 a2.1, Nat.le_trans a1.2 a2.2⟩
/-- more instructions, deeper calls: the same end -/
theorem lk_run_mono (X : lk_X) : ∀ (n d j pc : Nat) (lo st : List Value) (h : lk_H) (r : Option Value × lk_H), lk_run X n d j pc lo st h = some r → ∀ (n' d' : Nat), n ≤ n' → d ≤ d' → lk_run X n' d' j pc lo st h = some r := by
  intro n
  induction n with
  | zero => intro d j pc lo st h r e; cases e
  | succ n ih =>
    intro d j pc lo st h r e n' d' hn hd
    obtain ⟨n', rfl⟩ : ∃ k, n' = k + 1 := ⟨n' - 1, by omega⟩
    rw [lk_run] at e ⊢
    split at e
    · cases e
    · rename_i I len inf hi
      split at e
      · cases e
      · rename_i M hM
        split at e
        · rename_i rr hr
          try rw [hr]
          exact e
        · rename_i hr
          try rw [hr]
          try dsimp only
          split at e
          · rename_i k as rest hc
            try rw [hc]
            cases d with
            | zero => cases e
            | succ d =>
              obtain ⟨d', rfl⟩ : ∃ k, d' = k + 1 := ⟨d' - 1, by omega⟩
              try dsimp only at e ⊢
              split at e
              · rename_i hcs
                try rw [if_pos hcs]
                split at e
                · cases e
                · rename_i K hK
                  try rw [hK]
                  try dsimp only
                  split at e
                  · rename_i hle
                    try rw [if_pos hle]
                    split at e
                    · cases e
                    · rename_i v1 h1 he
                      rw [ih _ _ _ _ _ _ _ he n' d' (by omega) (by omega)]
                      exact ih _ _ _ _ _ _ _ e n' (d' + 1) (by omega) (by omega)
                  · cases e
              · cases e
          · rename_i hc
            try rw [hc]
            try dsimp only
            split at e
            · cases e
            · rename_i pc' lo' st' h1 he
              try rw [he]
              exact ih _ _ _ _ _ _ _ e n' d' (by omega) (by omega)
end
section
/-! what the tables must say of a call -/
def lk_wo (X : MethodName × String × Nat × Nat) : List Cond := match X.2.2.2 with
  | 1 => [.declares ⟨X.2.1, X.1.name, X.1.desc⟩]
  | n + 2 => match lk_mt[n]? with
    | some M => [.instanceMethod M.1, .code M.1 M.2.1 M.2.2.1 M.2.2.2]
    | none => []
  | _ => []
def lk_so (X : MethodName × String × Nat × Nat) : Bool := match X.2.2.2 with
  | 1 => true
  | n + 2 => match lk_mt[n]? with
    | some M => decide (M.1 = ⟨X.2.1, X.1.name, X.1.desc⟩)
    | none => false
  | _ => false
def lk_wc1 (own : String) (I : Instr) (inf : lk_I) (X : MethodName × String × Nat × Nat) (q : Nat × Nat) (M : lk_M) : List Cond :=
  .code M.1 M.2.1 M.2.2.1 M.2.2.2 :: .initialized M.1.cls :: (match I with
    | .invokestatic idx => [.methodLink own idx M.1, .static M.1]
    | .invokevirtual idx => if inf.1 = 1 then [.methodLink own idx M.1, .instanceMethod M.1, .selects (lk_cn q.1) M.1 M.1]
      else [.methodLink own idx X.1, .sameMethod X.1.cls X.2.1 X.1.name X.1.desc, .selects (lk_cn q.1) X.1 M.1, .instanceMethod M.1] ++ lk_wo X
    | .invokespecial idx => if inf.1 = 3 then [.methodLink own idx M.1, .instanceMethod M.1]
      else if inf.1 = 4 then [.methodLinkNest own idx M.1 X.2.1, .instanceMethod M.1]
      else [.methodLink own idx X.1, .sameMethod X.1.cls X.2.1 X.1.name X.1.desc, .superclass own X.1.cls, .instanceMethod M.1] ++ (if inf.1 = 6 then [.superclass X.1.cls X.2.1] else [])
    | _ => [])
def lk_wc (own : String) (I : Instr) (inf : lk_I) : List Cond := match inf.2.2 with
  | .ref xi => match lk_xn[xi]? with
    | some X => inf.2.1.flatMap (fun q => match lk_mt[q.2]? with
      | some M => lk_wc1 own I inf X q M
      | none => [])
    | none => []
  | _ => []
def lk_nMH (s : String) : Bool := decide (s ≠ "java/lang/invoke/MethodHandle") && decide (s ≠ "java/lang/invoke/VarHandle")
def lk_sc1 (I : Instr) (inf : lk_I) (X : MethodName × String × Nat × Nat) (M : lk_M) : Bool :=
  lk_nMH M.1.cls && lk_nMH X.2.1 && decide ((parseMethodDescriptor X.1.desc).map (fun d => d.parameters.length) = some X.2.2.1) && decide (M.2.2.1 ≤ 45) && plainName M.1.cls && (match I with
    | .invokestatic _ => decide (M.1 = X.1)
    | .invokevirtual _ => (decide (inf.1 = 1) && decide (M.1 = X.1)) || (decide (inf.1 = 2) && lk_so X)
    | .invokespecial _ => ((decide (inf.1 = 3) || decide (inf.1 = 4)) && decide (M.1 = X.1) && decide (M.1.name = "<init>") && decide (M.2.2.2 = none)) || (((decide (inf.1 = 5) && decide (X.1.cls = X.2.1)) || decide (inf.1 = 6)) && decide (M.1 = ⟨X.2.1, X.1.name, X.1.desc⟩) && decide (X.1.name ≠ "<init>"))
    | _ => false)
def lk_sc (I : Instr) (inf : lk_I) : Bool := match inf.2.2 with
  | .ref xi => match lk_xn[xi]? with
    | some X => inf.2.1.all (fun q => match lk_mt[q.2]? with
      | some M => lk_sc1 I inf X M
      | none => false)
    | none => false
  | _ => true
/-- of an instruction of a method, all that is asked -/
def lk_vd1 (M : lk_M) (pc : Nat) (E : lk_E) : Prop := decode M.2.1 pc = .ok (E.1, E.2.1) ∧ lk_ls E.1 E.2.1 = true ∧ (∀ w ∈ lk_wd M.1.cls E.1 E.2.2, w ∈ lk_tbl) ∧ lk_sd M.1.cls M.1.name pc E.1 E.2.2 = true ∧ (∀ w ∈ lk_wc M.1.cls E.1 E.2.2, w ∈ lk_tbl) ∧ lk_sc E.1 E.2.2 = true
def lk_vd : Prop := ∀ (j pc : Nat) (E : lk_E) (M : lk_M), lk_ins j pc = some E → lk_mt[j]? = some M → lk_vd1 M pc E
/-! a method's end -/
def lk_rt (ret : Option FieldType) (I : Instr) (v : Option Value) : Prop := (I = .ireturn ∧ ∃ x ty, v = some (.int x) ∧ ret = some ty ∧ narrow ty (.int x) = .int x) ∨ (I = .areturn ∧ ∃ w ty, v = some w ∧ ret = some ty ∧ ((∃ n, ty = .object n) ∨ ∃ t, ty = .array t) ∧ (w = .null ∨ ∃ a, w = .ref a)) ∨ (I = .return_ ∧ v = none ∧ ret = none)
theorem lk_ret_inv {ret : Option FieldType} {I : Instr} {st : List Value} {v : Option Value} (h : lk_ret ret I st = some v) : lk_rt ret I v ∧ st = v.toList := by
  unfold lk_ret at h
  split at h
  · split at h
    · rename_i x
      split at h
      · cases h
        exact ⟨Or.inl ⟨rfl, x, _, rfl, rfl, rfl⟩, rfl⟩
      · split at h
        · rename_i hx
          cases h
          refine ⟨Or.inl ⟨rfl, x, _, rfl, rfl, ?_⟩, rfl⟩
          rcases hx with rfl | rfl <;> rfl
        · cases h
      · cases h
    · cases h
  · split at h
    · split at h
      · cases h; exact ⟨Or.inr (Or.inl ⟨rfl, _, _, rfl, rfl, Or.inl ⟨_, rfl⟩, Or.inr ⟨_, rfl⟩⟩), rfl⟩
      · cases h; exact ⟨Or.inr (Or.inl ⟨rfl, _, _, rfl, rfl, Or.inl ⟨_, rfl⟩, Or.inl rfl⟩), rfl⟩
      · cases h
    · split at h
      · cases h; exact ⟨Or.inr (Or.inl ⟨rfl, _, _, rfl, rfl, Or.inr ⟨_, rfl⟩, Or.inr ⟨_, rfl⟩⟩), rfl⟩
      · cases h; exact ⟨Or.inr (Or.inl ⟨rfl, _, _, rfl, rfl, Or.inr ⟨_, rfl⟩, Or.inl rfl⟩), rfl⟩
      · cases h
    · cases h
  · split at h
    · split at h
      · cases h; exact ⟨Or.inr (Or.inr ⟨rfl, rfl, rfl⟩), rfl⟩
      · cases h
    · cases h
  · cases h
/-! contracts of methods out of runs -/
def lk_B (HB : Heap) (z L : Nat) (xs : Nat → Int32) (dC : Nat → ClassId) (dI : Nat → Nat → Nat) (aC : Nat → ClassId) (h : lk_H) (U : State) : Prop :=
  U.heap.size = HB.size + h.length ∧ va_P (dC, dI) vwCl (lk_ws HB.size z aC h) U.heap ∧ va_S (fun q : Nat => HB.size ≤ q) HB U.heap [] ∧ lk_T U ∧ va_K (dC, dI) vwCl (lk_tys aC) U ∧ lk_N U ∧ va_X z L xs U HB ∧ z < HB.size
def lk_Q (HB : Heap) (z : Nat) (dC : Nat → ClassId) (dI : Nat → Nat → Nat) (aC : Nat → ClassId) (v : Option Value) (h' : lk_H) : Array Value → State → Outcome → State → Prop := fun _ _ oc t => oc = .returned (v.map (lk_sv HB.size z)) ∧ va_P (dC, dI) vwCl (lk_ws HB.size z aC h') t.heap ∧ va_S (fun q : Nat => HB.size ≤ q) HB t.heap []
def lk_rm (d mc ms : Nat) : Room := { frames := d + 1, cells := mc, slots := ms, locals := 64 * (d + 1) }
def lk_Sd (n : Nat) : Prop := ∀ (HB : Heap) (z L : Nat) (xs : Nat → Int32) (dC : Nat → ClassId) (dI : Nat → Nat → Nat) (aC : Nat → ClassId) (d j pc : Nat) (lo st : List Value) (h : lk_H) (v : Option Value) (h' : lk_H) (M : lk_M), lk_run (L, xs) n d j pc lo st h = some (v, h') → lk_mt[j]? = some M →
  ∀ (p : Program) (l : Launch) (e : Env) (R : Room) (s : State) (m : MethodId) (args : Array Value) (below : List Frame) (meth : Method) (c : Code) (H : Heap) (locs : List Loc) (cells slots : Nat) (Q : State → Prop) (ls : Array Slot),
  lk_C HB z L xs dC dI aC p s m meth c M.2.1 M.1.cls M.1.name → lk_R HB z dC dI aC h H locs → lk_L HB.size z ls lo → c.maxLocals = lo.length → s.heap.size + cells = HB.size + h.length → cells + (h'.length - h.length) ≤ R.cells → slots + (lk_sz h' - lk_sz h) ≤ R.slots → d + 1 ≤ R.frames → 64 * (d + 1) ≤ R.locals →
  (∀ (H' : Heap) (locs' : List Loc) (ls' : Array Slot) (pcr : Nat) (I : Instr), lk_R HB z dC dI aC h' H' locs' → decode M.2.1 pcr = .ok (I, 1) → lk_rt M.2.2.2 I v → W p l e R s m args below meth c H' locs' (cells + (h'.length - h.length)) (slots + (lk_sz h' - lk_sz h)) Q (F0 m pcr ls' (v.toList.map (lk_sv HB.size z)))) →
  W p l e R s m args below meth c H locs cells slots Q (F0 m pc ls (st.map (lk_sv HB.size z)))
theorem lk_met {n : Nat} (hS : lk_Sd n) (l : Launch) {HB : Heap} {z L : Nat} {xs : Nat → Int32} {dC : Nat → ClassId} {dI : Nat → Nat → Nat} {aC : Nat → ClassId} {d k : Nat} {as : List Value} {h h1 : lk_H} {v : Option Value} {K : lk_M}
    (hrun : lk_run (L, xs) n d k 0 (lk_ent K.2.2.1 as) [] h = some (v, h1)) (hK : lk_mt[k]? = some K) (hex : (lk_ex as).length ≤ K.2.2.1) (hpl : plainName K.1.cls = true) :
    Met l K.1 [.code K.1 K.2.1 K.2.2.1 K.2.2.2] (lk_rm d (h1.length - h.length) (lk_sz h1 - lk_sz h)) (va_Pc (as.map (lk_sv HB.size z)) (lk_B HB z L xs dC dI aC h)) (lk_Q HB z dC dI aC v h1) (h1.length - h.length) (lk_sz h1 - lk_sz h) (fun q => HB.size ≤ q) := by
  refine Met.ofW (cc := K.2.1) (maxL := K.2.2.1) (ret := K.2.2.2) hpl rfl ?_
  intro p e s m args below meth c s₁ B hml hv
  obtain ⟨rfl, b1, b2, b3, b4, b5, b6, b7, b8⟩ := hv
  have hlocks : meth.locks = false := B.notSynchronized
  rw [lg_entry_eq]
  have hl := lk_L.entry HB.size z K.2.2.1 as hex
  have hlen : (lk_ent K.2.2.1 as).length = K.2.2.1 := by
    unfold lk_ent
    rw [List.length_append, List.length_replicate]
    omega
  refine hS HB z L xs dC dI aC d k 0 _ [] h v h1 K hrun hK p l e _ s m _ below meth c s.heap [] 0 0 _ _ ⟨B.exec, B.bytes, findClass_of_methodNamed B.named, b4, b5, b6, b7, b8, (name_of_methodNamed B.named B.method).1⟩ ⟨b2, b3⟩ hl (by rw [hlen]; exact hml) (by omega) (by rw [Nat.zero_add]; exact Nat.le_refl _) (by rw [Nat.zero_add]; exact Nat.le_refl _) (Nat.le_refl _) (Nat.le_refl _) ?_
  intro H' locs' ls' pcr I hR hdg hrt
  rw [Nat.zero_add, Nat.zero_add]
  have hend : ∀ (o : Option Value), o = v.map (lk_sv HB.size z) → ∀ t : State, t.heap = H' → s.WarmedH t.vm → lk_Q HB z dC dI aC v h1 ((as.map (lk_sv HB.size z)).toArray) s (.returned o) t := by
    intro o ho t ht _
    subst ho
    exact ⟨rfl, by rw [ht]; exact hR.1, by rw [ht]; exact ⟨hR.2.1, hR.2.2.1, fun q hq => by cases hq⟩⟩
  rcases hrt with ⟨rfl, x, ty, rfl, hr, hn⟩ | ⟨rfl, w, ty, rfl, hr, hty, hw⟩ | ⟨rfl, rfl, hr⟩
  · exact W.zret B.exec B.bytes (B.returns.trans hr) hn (hend _ rfl) hR.2.2.2 hdg
  · refine W.aret B.exec B.bytes (B.returns.trans hr) hty ?_ (hend _ rfl) hR.2.2.2 hdg
    rcases hw with rfl | ⟨a, rfl⟩
    · exact Or.inl rfl
    · exact Or.inr ⟨_, rfl⟩
  · exact W.vret B.exec B.bytes (B.returns.trans hr) (hend _ rfl) hR.2.2.2 hdg
/-! a super call of what the superclass has or inherits -/
section LKSX
variable {p : Program} {l : Launch} {e : Env} {R : Room} {s : State} {m : MethodId} {args : Array Value} {below : List Frame} {meth : Method} {c : Code} {H : Heap} {locs : List Loc} {cells slots : Nat}
theorem lk_runSX {x y : MethodName} {bytes cc : ByteArray} {maxL nL mc ms index : Nat} {ret : Option FieldType} {ws : List Cond} {rm : Room} {Pc : Array Value → State → Prop} {Qc : Array Value → State → Outcome → State → Prop} {free : Addr → Prop} {own C owner : String} {cC : ClassId} {b : Addr} {As rest : List Value} {g : JFrame}
    (hat : ClassAt s C cC) (hx : p.tables.exec = Jvm.exec) (hb : c.code = cc) (hml : c.maxLocals = nL) (ho : s.vm.findClass own = some m.cls) (hM : Met l y ws rm Pc Qc mc ms free) (hyx : y = ⟨owner, x.name, x.desc⟩)
    (hrc : rm.cells = mc) (hrs : rm.slots = ms) (hfr : rm.frames + 1 ≤ R.frames) (hlo : 8 + (maxL + 11) + rm.locals ≤ R.locals) (hws : ∀ w ∈ ws, ∀ (a' : Array Value) (U : State), s.WarmedH U.vm → w.before a' U = true) (hcw : Cond.code y bytes maxL ret ∈ ws)
    (hl1 : (Cond.methodLink own index x).before args s = true) (hl2 : (Cond.sameMethod x.cls owner x.name x.desc).before args s = true) (hl3 : (Cond.superclass own x.cls).before args s = true) (hl4 : (Cond.instanceMethod y).before args s = true) (hini : (Cond.initialized y.cls).before args s = true) (hcode : (Cond.code y bytes maxL ret).before args s = true) (hno : x.name ≠ "<init>")
    (hsub : x.cls = owner ∨ (Cond.superclass x.cls owner).before args s = true) (hlen : ∀ sig, parseMethodDescriptor x.desc = some sig → As.length = sig.parameters.length) (hp : PreV s H C b Pc As)
    (hg : g.method = m) (hsize : g.locals.size = nL) (hstack : g.stack = As.reverse ++ .ref b :: rest) (hW : 2 * g.monitorRoom + (rest.map fun v => v.category).sum ≤ 8) (hdg : decode cc g.pc = .ok (.invokespecial index, 3)) (hf : cells + mc ≤ R.cells ∧ slots + ms ≤ R.slots) :
    va_Run p l e R s m args below meth c H locs cells slots mc ms g rest (Qc (Value.ref b :: As).toArray) (free) := by
  have hK : Back l R p e below s args y 3 8 (PreOf R mc ms Pc) (PostOf Qc mc ms free) := back_of (bytes := bytes) (maxL := maxL) (ret := ret) hM hp.1 hrc hrs hfr hlo hws hcw (fun a' U hW => word_at hW (Or.inl (by first | rfl | simp [Cond.onTables, Cond.keeps, Cond.steady])) hini)
  obtain ⟨-, ⟨cellB, hcB, hoB, hclB⟩, hPc⟩ := hp
  obtain ⟨hfc, kB, hkB, -⟩ := hat
  cases hfc.symm.trans hclB
  obtain ⟨mk, methM, hnamed, hmethM, hstM, habM⟩ := Cond.instanceMethod_spec hl4
  obtain ⟨methM', cM, hmethM', -, -, -, -, -, -, hsigM⟩ := Cond.code_spec hnamed hcode
  cases hmethM.symm.trans hmethM'
  obtain ⟨ps, dk, kp, hps, hdk, hkp, hsuper, -, -, hnid⟩ := Cond.superclass_spec ho hl3
  have hn : s.methodNamed? ⟨owner, x.name, x.desc⟩ = some mk := by rw [← hyx]; exact hnamed
  have hpm : s.vm.findClass owner = some mk.cls := by
    have := findClass_of_methodNamed hn
    exact this
  have hsb : s.vm.isSubclass ps mk.cls = true := by
    rcases hsub with hq | hq
    · rw [hq] at hps
      cases hps.symm.trans hpm
      simp [Vm.isSubclass, Vm.isSubclassAux]
    · obtain ⟨ps2, dk2, kp2, hps2, hdk2, hkp2, hsuper2, -⟩ := Cond.superclass_spec hps hq
      cases hps2.symm.trans hpm
      have hpos : 0 < s.vm.classes.size := by
        have := (Array.getElem?_eq_some_iff.mp hdk2).1
        omega
      obtain ⟨k, hk⟩ : ∃ k, s.vm.classes.size = k + 1 := ⟨s.vm.classes.size - 1, by omega⟩
      unfold Vm.isSubclass
      rw [hk]
      simp [Vm.isSubclassAux, hdk2, hsuper2]
  have hsigd : parseMethodDescriptor x.desc = some methM.sig := by
    rw [hyx] at hsigM
    exact hsigM
  intro T hT X
  obtain ⟨vm₁, X₁, hstep₁⟩ := X.invokespecialUp hx ho hl1 hl2 hn hmethM hstM habM hno hdk hnid hps hsuper hsb (a := b) (cell := cellB) (by rw [hT]; exact hcB)
    (fun z h => by rw [h] at hoB; cases hoB) hkB (g := g) hg (argsL := As) (rest := rest) (hlen _ hsigd) hstack (by rw [hb]; exact hdg)
  obtain ⟨v, ⟨U', l2, c2, s2⟩, X', ⟨g', mk', t, L, e1, e2, hq, h1, hL, h2, h3⟩, st⟩ := hK m meth c ⟨T.setVm vm₁, locs, cells, slots⟩ { g with stack := rest } (.invokespecial index) mk (Value.ref b :: As).toArray X₁ hg (hsize.trans hml.symm) (by rw [hb]; exact hdg) hW (X₁.named hnamed) ⟨hf.1, hf.2, hPc (T.setVm vm₁) hT X₁.warmed⟩
  dsimp only [Pt.U, Pt.locs, Pt.cells, Pt.slots] at X' e1 e2 h1 h2 h3 st
  subst h1; subst h2; subst h3
  exact ⟨v, (T.setVm vm₁).calling g' mk' (Value.ref b :: As).toArray, t, U', L, hT, X', hL, e1, e2, hq, fun target h => hstep₁ _ (by rw [doInvoke_state]; exact st.trans h)⟩
end LKSX
end
section
/-! THE MACHINE FOLLOWS EVERY RUN of the small machine -/
section LKR
variable {p : Program} {l : Launch} {e : Env} {R : Room} {s : State} {m : MethodId} {args : Array Value} {below : List Frame} {meth : Method} {c : Code} {H : Heap} {locs : List Loc} {cells slots : Nat} {Q : State → Prop}
variable {HB : Heap} {z L : Nat} {xs : Nat → Int32} {dC : Nat → ClassId} {dI : Nat → Nat → Nat} {aC : Nat → ClassId} {cc : ByteArray} {own name : String}
variable {pc : Nat} {lo st : List Value} {h : lk_H} {ls : Array Slot} {inf : lk_I}
theorem lk_after {mc ms : Nat} {rest st0 : List Value} {a : Array Value} {w : Option Value} {h1 : lk_H} (hr : va_Run p l e R s m args below meth c H locs cells slots mc ms (F0 m pc ls st0) rest (lk_Q HB z dC dI aC w h1 a) (fun q => HB.size ≤ q)) (hS : va_S (fun q : Nat => HB.size ≤ q) HB H locs)
    (kk : ∀ (H' : Heap) (locs' : List Loc), lk_R HB z dC dI aC h1 H' locs' → W p l e R s m args below meth c H' locs' (cells + mc) (slots + ms) Q (F0 m (pc + 3) ls (w.toList.map (lk_sv HB.size z) ++ rest))) : W p l e R s m args below meth c H locs cells slots Q (F0 m pc ls st0) := by
  intro T hT X
  obtain ⟨v, st₀, t, T', L', h0, X', hL, e1, e2, ⟨hv, hP, hS1⟩, st⟩ := hr T hT X
  have hv2 : v = w.map (lk_sv HB.size z) := by cases hv; rfl
  subst hv2
  obtain ⟨t2, a1, b1⟩ := kk T'.heap (locs ++ L') ⟨by rw [e1]; exact hP, by rw [e1]; exact hS1.1, by rw [e1]; exact hS1.2.1, fun q hq => by
    rcases List.mem_append.mp hq with h | h
    · exact hS.2.2 q h
    · exact hL q h⟩ T' rfl X'
  refine ⟨t2, st t2 ?_, b1⟩
  cases w <;> exact a1
theorem lk_size (hR : lk_R HB z dC dI aC h H locs) (hle : H.size ≤ HB.size + h.length) : H.size = HB.size + h.length := by
  cases hh : h.length with
  | zero =>
    have := hR.2.1
    omega
  | succ k =>
    have hk : k < h.length := by omega
    have h1 := hR.1 k _ (lk_ws_at (List.getElem?_eq_getElem hk))
    have h2 := h1.lt
    dsimp only at h2
    omega
theorem lk_blind {as : List Value} : FrameBlind (va_Pc as (lk_B HB z L xs dC dI aC h)) := by
  intro a U g mk hq
  obtain ⟨e1, b1, b2, b3, b4, b5, b6, b7, b8⟩ := hq
  exact ⟨e1, b1, b2, b3, b4.vm (U := U.calling g mk a) rfl, va_K.moved (u := U) (U := U.calling g mk a) (Vm.Alike.refl U.vm) b5, lk_N.moved (s := U) (U := U.calling g mk a) b6 (Vm.Alike.refl U.vm), va_X.moved (u := U) (U := U.calling g mk a) (Vm.Alike.refl U.vm) b7, b8⟩
theorem lk_pre (hC : lk_C HB z L xs dC dI aC p s m meth c cc own name) (hR : lk_R HB z dC dI aC h H locs) (hsz : H.size = HB.size + h.length) (as : List Value) : ∀ U : State, U.heap = H → s.WarmedH U.vm → va_Pc as (lk_B HB z L xs dC dI aC h) as.toArray U := by
  obtain ⟨hx, hb, hown, hT, hK, hN, hX, hz, hnm⟩ := hC
  intro U hU hW
  refine ⟨rfl, by rw [hU]; exact hsz, by rw [hU]; exact hR.1, by rw [hU]; exact ⟨hR.2.1, hR.2.2.1, fun q hq => by cases hq⟩, hT.moved hW, va_K.moved hW.alike hK, hN.moved hW.alike, va_X.moved hW.alike hX, hz⟩
theorem lk_wc_mem {I : Instr} {xi : Nat} {X : MethodName × String × Nat × Nat} {q : Nat × Nat} {K : lk_M} (h1 : inf.2.2 = .ref xi) (h2 : lk_xn[xi]? = some X) (h3 : q ∈ inf.2.1) (h4 : lk_mt[q.2]? = some K) (hw : ∀ w ∈ lk_wc own I inf, w ∈ lk_tbl) (hs : lk_sc I inf = true) : (∀ w ∈ lk_wc1 own I inf X q K, w ∈ lk_tbl) ∧ lk_sc1 I inf X K = true := by
  constructor
  · intro w hw1
    apply hw
    unfold lk_wc
    rw [h1]
    dsimp only
    rw [h2]
    exact List.mem_flatMap.mpr ⟨q, h3, by rw [h4]; exact hw1⟩
  · unfold lk_sc at hs
    rw [h1] at hs
    dsimp only at hs
    rw [h2] at hs
    have := List.all_eq_true.mp hs q h3
    rw [h4] at this
    exact this
theorem lk_nMH_of {s : String} (h : lk_nMH s = true) : s ≠ "java/lang/invoke/MethodHandle" ∧ s ≠ "java/lang/invoke/VarHandle" := by
  unfold lk_nMH at h
  rw [Bool.and_eq_true] at h
  exact ⟨of_decide_eq_true h.1, of_decide_eq_true h.2⟩
theorem lk_sig {desc : String} {n : Nat} (h : (parseMethodDescriptor desc).map (fun d => d.parameters.length) = some n) : ∀ sig, parseMethodDescriptor desc = some sig → n = sig.parameters.length := by
  intro sig hs
  rw [hs] at h
  exact (Option.some.inj h).symm
/-- a call, by its kind -/
theorem lk_callrun {n d k : Nat} {I : Instr} {as rest : List Value} {K : lk_M} {w : Option Value} {h1 : lk_H} (hS : lk_Sd n) (hC : lk_C HB z L xs dC dI aC p s m meth c cc own name) (hR : lk_R HB z dC dI aC h H locs) (hl : lk_L HB.size z ls lo) (hn : c.maxLocals = lo.length) (hsz : H.size = HB.size + h.length)
    (hdg : decode cc pc = .ok (I, 3)) (hwc : ∀ w ∈ lk_wc own I inf, w ∈ lk_tbl) (hsc : lk_sc I inf = true) (hc : lk_callee I inf st h = some (k, as, rest)) (hcs : (rest.map fun v => v.category).sum ≤ 8) (hK : lk_mt[k]? = some K) (hex : (lk_ex as).length ≤ K.2.2.1)
    (he : lk_run (L, xs) n d k 0 (lk_ent K.2.2.1 as) [] h = some (w, h1)) (hcl : cells + (h1.length - h.length) ≤ R.cells) (hsl : slots + (lk_sz h1 - lk_sz h) ≤ R.slots) (hfr : d + 1 + 1 ≤ R.frames) (hlo : 64 * (d + 1 + 1) ≤ R.locals) :
    va_Run p l e R s m args below meth c H locs cells slots (h1.length - h.length) (lk_sz h1 - lk_sz h) (F0 m pc ls (st.map (lk_sv HB.size z))) (rest.map (lk_sv HB.size z)) (lk_Q HB z dC dI aC w h1 ((as.map (lk_sv HB.size z)).toArray)) (fun q => HB.size ≤ q) := by
  obtain ⟨hx, hb, hown, hT, hKK, hN, hX, hz, hnm⟩ := id hC
  unfold lk_callee at hc
  split at hc
  · rename_i xi hxi
    split at hc
    · rename_i X hX2
      have hroom := lv_room (m := m) (pc := pc) (ls := ls) (rest := st.map (lk_sv HB.size z)) (st := rest.map (lk_sv HB.size z)) (by rw [lk_catsum]; exact hcs)
      have hmv : ∀ {w0 : Cond}, w0 ∈ lk_tbl → lk_kd w0 = true → ∀ w1 ∈ [w0], ∀ (a' : Array Value) (U : State), s.WarmedH U.vm → w1.before a' U = true := by
        intro w0 h0 hk0 w1 hw1 a' U hW
        rw [List.mem_singleton.mp hw1]
        exact lk_mv hk0 hW (hT.use h0 hk0 args)
      split at hc
      · rename_i idx
        split at hc
        · rename_i q qs hq
          obtain ⟨⟨as1, r1⟩, hp, hq2⟩ := Option.map_eq_some_iff.mp hc
          cases hq2
          obtain ⟨bs, e1, e2, e3⟩ := lk_pop_inv _ _ _ _ _ hp
          rw [List.append_nil] at e1
          subst e1
          obtain ⟨hw, hs⟩ := lk_wc_mem hxi hX2 (by rw [hq]; exact List.mem_cons_self) hK hwc hsc
          simp only [lk_sc1, Bool.and_eq_true, decide_eq_true_eq] at hs
          obtain ⟨⟨⟨⟨⟨s1, s2⟩, s3⟩, s4⟩, s5⟩, s6⟩ := hs
          have hM := lk_met hS l (HB := HB) (z := z) (dC := dC) (dI := dI) (aC := aC) he hK hex s5
          refine va_runS (Ts := []) (n := as1.length) (As := as1.map (lk_sv HB.size z)) (rest := r1.map (lk_sv HB.size z)) ⟨hx, hb, hn.trans hl.1.symm, hown, fun w hw => by cases hw⟩ hM ⟨⟨rfl, rfl, hfr, by show 8 + (K.2.2.1 + 11) + 64 * (d + 1) ≤ R.locals; omega, hmv (hw _ (by simp [lk_wc1])) rfl, List.mem_cons_self, hT.use (hw _ (by simp [lk_wc1])) rfl args, hT.use (w := .initialized K.1.cls) (hw _ (by simp [lk_wc1])) rfl args, lk_nMH_of s1, ?_, hT.use (w := .methodLink own idx K.1) (hw _ (by simp [lk_wc1])) rfl args⟩, hT.use (w := .static K.1) (hw _ (by simp [lk_wc1])) rfl args⟩ ⟨lk_blind, lk_pre hC hR hsz _⟩ rfl (by simp) rfl ?_ hroom hdg ⟨hcl, hsl⟩
          · rw [s6]
            have := lk_sig s3
            rw [← e2] at this
            exact this
          · show st.map (lk_sv HB.size z) = _
            rw [e3, List.map_append, List.map_reverse]
        · cases hc
      · rename_i idx
        split at hc
        · rename_i as1 a r1 hp
          split at hc
          · rename_i ci fs ha
            obtain ⟨k1, hk1, hq2⟩ := Option.map_eq_some_iff.mp hc
            cases hq2
            obtain ⟨bs, e1, e2, e3⟩ := lk_pop_inv _ _ _ _ _ hp
            rw [List.append_nil] at e1
            subst e1
            have ha' := lk_ws_at (b := HB.size) (z := z) (aC := aC) ha
            obtain ⟨rc, hrc, -⟩ := hR.1 a _ ha'
            dsimp only [lk_se] at hrc
            have hrv := va_recv hKK hR.1 hrc ha'
            have hcn := lk_cn_of hrc
            obtain ⟨hw, hs⟩ := lk_wc_mem hxi hX2 (lk_find_inv hk1) hK hwc hsc
            simp only [lk_sc1, Bool.and_eq_true, decide_eq_true_eq] at hs
            obtain ⟨⟨⟨⟨⟨s1, s2⟩, s3⟩, s4⟩, s5⟩, s6⟩ := hs
            have hM := lk_met hS l (HB := HB) (z := z) (dC := dC) (dI := dI) (aC := aC) he hK hex s5
            rw [Bool.or_eq_true, Bool.and_eq_true, Bool.and_eq_true, decide_eq_true_eq, decide_eq_true_eq, decide_eq_true_eq] at s6
            have hstk : st.map (lk_sv HB.size z) = (as1.map (lk_sv HB.size z)).reverse ++ .ref (HB.size + a) :: rest.map (lk_sv HB.size z) := by
              rw [e3, List.map_append, List.map_reverse]; rfl
            rcases s6 with ⟨s6, s7⟩ | ⟨s6, s7⟩
            · simp only [lk_wc1, s6, if_true, hcn] at hw
              refine va_runV (Ts := []) (n := as1.length) (C := rc.1) (As := as1.map (lk_sv HB.size z)) ⟨hx, hb, hn.trans hl.1.symm, hown, fun w hw => by cases hw⟩ hM ⟨⟨rfl, rfl, hfr, by show 8 + (K.2.2.1 + 11) + 64 * (d + 1) ≤ R.locals; omega, hmv (hw _ (by simp)) rfl, List.mem_cons_self, hT.use (hw _ (by simp)) rfl args, hT.use (w := .initialized K.1.cls) (hw _ (by simp)) rfl args, lk_nMH_of s1, ?_, hT.use (w := .methodLink own idx K.1) (hw _ (by simp)) rfl args⟩, hT.use (w := .instanceMethod K.1) (hw _ (by simp)) rfl args, hT.use (w := .selects rc.1 K.1 K.1) (hw _ (by simp)) rfl args⟩ ⟨lk_blind, hrv, lk_pre hC hR hsz _⟩ rfl (by simp) rfl hstk hroom hdg ⟨hcl, hsl⟩
              rw [s7]
              have := lk_sig s3
              rw [← e2] at this
              exact this
            · have hne : ¬ inf.1 = 1 := by omega
              simp only [lk_wc1, hne, if_false, hcn] at hw
              have hdecl : va_Decl s ⟨X.2.1, X.1.name, X.1.desc⟩ := by
                unfold lk_so at s7
                unfold lk_wo at hw
                split at s7
                · rename_i hx1
                  rw [hx1] at hw
                  exact va_Decl.abs (va_Nw.of rfl (hT.use (w := .declares ⟨X.2.1, X.1.name, X.1.desc⟩) (hw _ (by simp)) rfl args))
                · rename_i nn hx1
                  rw [hx1] at hw
                  dsimp only at hw
                  split at s7
                  · rename_i M2 hM2
                    rw [hM2] at hw
                    have hq3 := of_decide_eq_true s7
                    rw [← hq3]
                    exact va_Decl.of (b := M2.2.1) (m := M2.2.2.1) (ret := M2.2.2.2) (hT.use (w := .instanceMethod M2.1) (hw _ (by simp)) rfl args) (hT.use (w := .code M2.1 M2.2.1 M2.2.2.1 M2.2.2.2) (hw _ (by simp)) rfl args)
                  · cases s7
                · cases s7
              refine va_runU (Ts := []) (n := as1.length) (x := X.1) (owner := X.2.1) (C := rc.1) (As := as1.map (lk_sv HB.size z)) ⟨hx, hb, hn.trans hl.1.symm, hown, fun w hw => by cases hw⟩ hM ⟨⟨rfl, rfl, hfr, by show 8 + (K.2.2.1 + 11) + 64 * (d + 1) ≤ R.locals; omega, hmv (hw _ (by simp)) rfl, List.mem_cons_self⟩, hT.use (hw _ (by simp)) rfl args, hT.use (w := .initialized K.1.cls) (hw _ (by simp)) rfl args, lk_nMH_of s2, ?_, hT.use (w := .methodLink own idx X.1) (hw _ (by simp)) rfl args, hT.use (w := .sameMethod X.1.cls X.2.1 X.1.name X.1.desc) (hw _ (by simp)) rfl args, hdecl, hT.use (w := .selects rc.1 X.1 K.1) (hw _ (by simp)) rfl args, hT.use (w := .instanceMethod K.1) (hw _ (by simp)) rfl args⟩ ⟨lk_blind, hrv, lk_pre hC hR hsz _⟩ rfl (by simp) rfl hstk hroom hdg ⟨hcl, hsl⟩
              have := lk_sig s3
              rw [← e2] at this
              exact this
          · cases hc
        · cases hc
      · rename_i idx
        split at hc
        · rename_i as1 a r1 hp
          split at hc
          · rename_i q qs hq
            split at hc
            · rename_i o ha
              cases hc
              obtain ⟨bs, e1, e2, e3⟩ := lk_pop_inv _ _ _ _ _ hp
              rw [List.append_nil] at e1
              subst e1
              have ha' := lk_ws_at (b := HB.size) (z := z) (aC := aC) ha
              obtain ⟨rc, hrc, -⟩ := hR.1 a _ ha'
              dsimp only [lk_se] at hrc
              have hrv := va_recv hKK hR.1 hrc ha'
              obtain ⟨hw, hs⟩ := lk_wc_mem hxi hX2 (by rw [hq]; exact List.mem_cons_self) hK hwc hsc
              simp only [lk_sc1, Bool.and_eq_true, decide_eq_true_eq] at hs
              obtain ⟨⟨⟨⟨⟨s1, s2⟩, s3⟩, s4⟩, s5⟩, s6⟩ := hs
              have hM := lk_met hS l (HB := HB) (z := z) (dC := dC) (dI := dI) (aC := aC) he hK hex s5
              have hstk : st.map (lk_sv HB.size z) = (as1.map (lk_sv HB.size z)).reverse ++ .ref (HB.size + a) :: rest.map (lk_sv HB.size z) := by
                rw [e3, List.map_append, List.map_reverse]; rfl
              have hsig : ∀ sig, parseMethodDescriptor X.1.desc = some sig → as1.length = sig.parameters.length := by
                have := lk_sig s3
                rw [← e2] at this
                exact this
              rcases Bool.or_eq_true _ _ |>.mp s6 with s6 | s6
              · simp only [Bool.and_eq_true, Bool.or_eq_true, decide_eq_true_eq] at s6
                obtain ⟨⟨⟨s6, s7⟩, s8⟩, s9⟩ := s6
                rw [s9] at hM
                rw [← s7] at hsig
                rcases s6 with s6 | s6
                · simp only [lk_wc1, s6, if_true, s9] at hw
                  exact va_runI (Ts := []) (n := as1.length) (As := as1.map (lk_sv HB.size z)) ⟨hx, hb, hn.trans hl.1.symm, hown, fun w hw => by cases hw⟩ hM ⟨⟨rfl, rfl, hfr, by show 8 + (K.2.2.1 + 11) + 64 * (d + 1) ≤ R.locals; omega, hmv (hw _ (by simp)) rfl, List.mem_cons_self, hT.use (hw _ (by simp)) rfl args, hT.use (w := .initialized K.1.cls) (hw _ (by simp)) rfl args, lk_nMH_of s1, hsig, hT.use (w := .methodLink own idx K.1) (hw _ (by simp)) rfl args⟩, s8, hT.use (w := .instanceMethod K.1) (hw _ (by simp)) rfl args⟩ ⟨lk_blind, lk_pre hC hR hsz _⟩ rfl (by simp) rfl hstk hroom hdg ⟨hcl, hsl⟩
                · have hne : ¬ inf.1 = 3 := by omega
                  simp only [lk_wc1, hne, s6, if_true, if_false, s9] at hw
                  exact va_runIN (Ts := []) (n := as1.length) (host := X.2.1) (As := as1.map (lk_sv HB.size z)) ⟨hx, hb, hn.trans hl.1.symm, hown, fun w hw => by cases hw⟩ hM ⟨⟨⟨rfl, rfl, hfr, by show 8 + (K.2.2.1 + 11) + 64 * (d + 1) ≤ R.locals; omega, hmv (hw _ (by simp)) rfl, List.mem_cons_self⟩, hT.use (hw _ (by simp)) rfl args, hT.use (w := .initialized K.1.cls) (hw _ (by simp)) rfl args, lk_nMH_of s1, hsig, hT.use (w := .methodLinkNest own idx K.1 X.2.1) (hw _ (by simp)) rfl args⟩, s8, hT.use (w := .instanceMethod K.1) (hw _ (by simp)) rfl args⟩ ⟨lk_blind, lk_pre hC hR hsz _⟩ rfl (by simp) rfl hstk hroom hdg ⟨hcl, hsl⟩
              · simp only [Bool.and_eq_true, Bool.or_eq_true, decide_eq_true_eq] at s6
                obtain ⟨⟨s6, s7⟩, s8⟩ := s6
                have hne3 : ¬ inf.1 = 3 := by omega
                have hne4 : ¬ inf.1 = 4 := by omega
                simp only [lk_wc1, hne3, hne4, if_false] at hw
                have hsub : X.1.cls = X.2.1 ∨ (Cond.superclass X.1.cls X.2.1).before args s = true := by
                  rcases s6 with s6 | s6
                  · exact Or.inl s6.2
                  · refine Or.inr (hT.use (w := .superclass X.1.cls X.2.1) (hw _ ?_) rfl args)
                    simp [s6]
                exact lk_runSX (C := rc.1) (As := as1.map (lk_sv HB.size z)) (hKK.1 _ rc hrc).2 hx hb (hn.trans hl.1.symm) hown hM s7 rfl rfl hfr (by show 8 + (K.2.2.1 + 11) + 64 * (d + 1) ≤ R.locals; omega) (hmv (hw _ (by simp)) rfl) List.mem_cons_self (hT.use (w := .methodLink own idx X.1) (hw _ (by simp)) rfl args) (hT.use (w := .sameMethod X.1.cls X.2.1 X.1.name X.1.desc) (hw _ (by simp)) rfl args) (hT.use (w := .superclass own X.1.cls) (hw _ (by simp)) rfl args) (hT.use (w := .instanceMethod K.1) (hw _ (by simp)) rfl args) (hT.use (w := .initialized K.1.cls) (hw _ (by simp)) rfl args) (hT.use (hw _ (by simp)) rfl args) s8 hsub (by rw [List.length_map]; exact hsig) ⟨lk_blind, hrv, lk_pre hC hR hsz _⟩ rfl rfl hstk hroom hdg ⟨hcl, hsl⟩
            · cases hc
          · cases hc
        · cases hc
      · cases hc
    · cases hc
  · cases hc
theorem lk_sound (hvd : lk_vd) : ∀ n, lk_Sd n := by
  intro n
  induction n with
  | zero =>
    intro HB z L xs dC dI aC d j pc lo st h v h' M hrun
    cases hrun
  | succ n ih =>
    intro HB z L xs dC dI aC d j pc lo st h v h' M hrun hM p l e R s m args below meth c H locs cells slots Q ls hC hR hl hn hbd hcl hsl hfr hlo hend
    rw [lk_run] at hrun
    split at hrun
    · cases hrun
    · rename_i I len inf hi
      rw [hM] at hrun
      dsimp only at hrun
      obtain ⟨v1, v2, v3, v4, v5, v6⟩ := hvd j pc (I, len, inf) M hi hM
      dsimp only at v1 v2 v3 v4 v5 v6
      split at hrun
      · rename_i r hr
        cases hrun
        obtain ⟨hrt, rfl⟩ := lk_ret_inv hr
        have hlen1 : len = 1 := by
          rcases hrt with ⟨rfl, -⟩ | ⟨rfl, -⟩ | ⟨rfl, -⟩ <;> exact beq_iff_eq.mp v2
        subst hlen1
        have k := hend H locs ls pc I hR v1 hrt
        rw [Nat.sub_self, Nat.sub_self, Nat.add_zero, Nat.add_zero] at k
        exact k
      · split at hrun
        · rename_i k as rest hc
          cases d with
          | zero => cases hrun
          | succ d =>
            dsimp only at hrun
            split at hrun
            · rename_i hcs
              split at hrun
              · cases hrun
              · rename_i K hK
                split at hrun
                · rename_i hex
                  split at hrun
                  · cases hrun
                  · rename_i w h1 he
                    have l1 := lk_run_le _ _ _ _ _ _ _ _ _ _ he
                    have l2 := lk_run_le _ _ _ _ _ _ _ _ _ _ hrun
                    have hlen3 : len = 3 := by
                      unfold lk_callee at hc
                      split at hc
                      · split at hc
                        · split at hc
                          · exact beq_iff_eq.mp v2
                          · exact beq_iff_eq.mp v2
                          · exact beq_iff_eq.mp v2
                          · cases hc
                        · cases hc
                      · cases hc
                    subst hlen3
                    refine lk_bound (fun hbz => ?_)
                    have hsz := lk_size hR (by omega)
                    refine lk_after (lk_callrun ih hC hR hl hn hsz v1 v5 v6 hc hcs hK hex he (by omega) (by omega) hfr hlo) hR.2 (fun H' locs' hR' => ?_)
                    have k2 := ih HB z L xs dC dI aC (d + 1) j (pc + 3) lo (w.toList ++ rest) h1 v h' M hrun hM p l e R s m args below meth c H' locs' (cells + (h1.length - h.length)) (slots + (lk_sz h1 - lk_sz h)) Q ls hC hR' hl hn (by omega) (by omega) (by omega) hfr hlo (fun H2 locs2 ls2 pcr I2 q1 q2 q3 => by
                      have q4 := hend H2 locs2 ls2 pcr I2 q1 q2 q3
                      have a1 : cells + (h1.length - h.length) + (h'.length - h1.length) = cells + (h'.length - h.length) := by omega
                      have a2 : slots + (lk_sz h1 - lk_sz h) + (lk_sz h' - lk_sz h1) = slots + (lk_sz h' - lk_sz h) := by omega
                      rw [a1, a2]
                      exact q4)
                    rw [List.map_append] at k2
                    exact k2
                · cases hrun
            · cases hrun
        · split at hrun
          · cases hrun
          · rename_i pc' lo' st' h1 he
            have l1 := lk_st1_le he
            have l2 := lk_run_le _ _ _ _ _ _ _ _ _ _ hrun
            dsimp only at l1
            refine lk_step hC hR hl v1 v2 v3 v4 hn (by omega) (by omega) hbd (by dsimp only; omega) (by dsimp only; omega) he ?_
            intro H' locs' ls' hR' hl' hlen
            dsimp only at hR' hl' hlen ⊢
            refine ih HB z L xs dC dI aC d j pc' lo' st' h1 v h' M hrun hM p l e R s m args below meth c H' locs' (cells + (h1.length - h.length)) (slots + (lk_sz h1 - lk_sz h)) Q ls' hC hR' hl' (by rw [hlen]; exact hn) (by omega) (by omega) (by omega) hfr hlo (fun H2 locs2 ls2 pcr I2 q1 q2 q3 => ?_)
            have q4 := hend H2 locs2 ls2 pcr I2 q1 q2 q3
            have a1 : cells + (h1.length - h.length) + (h'.length - h1.length) = cells + (h'.length - h.length) := by omega
            have a2 : slots + (lk_sz h1 - lk_sz h) + (lk_sz h' - lk_sz h1) = slots + (lk_sz h' - lk_sz h) := by omega
            rw [a1, a2]
            exact q4
end LKR
end
section
/-! WHAT A RUN COMES TO: rows for proofs over the small machine -/
def lk_wp (X : lk_X) (d j pc : Nat) (lo st : List Value) (h : lk_H) (Q : Option Value → lk_H → Prop) : Prop := ∃ n v h', lk_run X n d j pc lo st h = some (v, h') ∧ Q v h'
def lk_wx (X : lk_X) (d k : Nat) (as : List Value) (h : lk_H) (Q : Option Value → lk_H → Prop) : Prop := ∃ K, lk_mt[k]? = some K ∧ (lk_ex as).length ≤ K.2.2.1 ∧ lk_wp X d k 0 (lk_ent K.2.2.1 as) [] h Q
theorem lk_wp.mono {X : lk_X} {d d' j pc : Nat} {lo st : List Value} {h : lk_H} {Q Q' : Option Value → lk_H → Prop} (hw : lk_wp X d j pc lo st h Q) (hd : d ≤ d') (hQ : ∀ v h, Q v h → Q' v h) : lk_wp X d' j pc lo st h Q' := by
  obtain ⟨n, v, h', e, q⟩ := hw
  exact ⟨n, v, h', lk_run_mono X n d j pc lo st h _ e n d' (Nat.le_refl _) hd, hQ _ _ q⟩
theorem lk_wx.mono {X : lk_X} {d d' k : Nat} {as : List Value} {h : lk_H} {Q Q' : Option Value → lk_H → Prop} (hw : lk_wx X d k as h Q) (hd : d ≤ d') (hQ : ∀ v h, Q v h → Q' v h) : lk_wx X d' k as h Q' := by
  obtain ⟨K, h1, h2, h3⟩ := hw
  exact ⟨K, h1, h2, h3.mono hd hQ⟩
theorem lk_wp_step {X : lk_X} {d j pc : Nat} {lo st : List Value} {h : lk_H} {Q : Option Value → lk_H → Prop} {I : Instr} {len : Nat} {inf : lk_I} {M : lk_M} {q : lk_S} (hi : lk_ins j pc = some (I, len, inf)) (hM : lk_mt[j]? = some M) (hr : lk_ret M.2.2.2 I st = none) (hc : lk_callee I inf st h = none) (hs : lk_st1 X I len inf pc lo st h = some q)
    (k : lk_wp X d j q.1 q.2.1 q.2.2.1 q.2.2.2 Q) : lk_wp X d j pc lo st h Q := by
  obtain ⟨n, v, h', e, hq⟩ := k
  refine ⟨n + 1, v, h', ?_, hq⟩
  rw [lk_run, hi]
  dsimp only
  rw [hM]
  dsimp only
  rw [hr]
  dsimp only
  rw [hc]
  dsimp only
  rw [hs]
  exact e
theorem lk_wp_ret {X : lk_X} {d j pc : Nat} {lo st : List Value} {h : lk_H} {Q : Option Value → lk_H → Prop} {I : Instr} {len : Nat} {inf : lk_I} {M : lk_M} {v : Option Value} (hi : lk_ins j pc = some (I, len, inf)) (hM : lk_mt[j]? = some M) (hr : lk_ret M.2.2.2 I st = some v) (k : Q v h) : lk_wp X d j pc lo st h Q := by
  refine ⟨1, v, h, ?_, k⟩
  rw [lk_run, hi]
  dsimp only
  rw [hM]
  dsimp only
  rw [hr]
theorem lk_wp_call {X : lk_X} {d j pc : Nat} {lo st : List Value} {h : lk_H} {Q : Option Value → lk_H → Prop} {I : Instr} {len : Nat} {inf : lk_I} {M : lk_M} {k : Nat} {as rest : List Value} (hi : lk_ins j pc = some (I, len, inf)) (hM : lk_mt[j]? = some M) (hr : lk_ret M.2.2.2 I st = none) (hc : lk_callee I inf st h = some (k, as, rest)) (hcs : (rest.map fun v => v.category).sum ≤ 8)
    (kk : lk_wx X d k as h (fun v h1 => lk_wp X (d + 1) j (pc + 3) lo (v.toList ++ rest) h1 Q)) : lk_wp X (d + 1) j pc lo st h Q := by
  obtain ⟨K, hK, hex, n1, v, h1, e1, n2, w, h2, e2, hq⟩ := kk
  refine ⟨n1 + n2 + 1, w, h2, ?_, hq⟩
  rw [lk_run, hi]
  dsimp only
  rw [hM]
  dsimp only
  rw [hr]
  dsimp only
  rw [hc]
  dsimp only
  rw [if_pos hcs, hK]
  dsimp only
  rw [if_pos hex, lk_run_mono X n1 d k 0 _ _ h _ e1 (n1 + n2) d (by omega) (Nat.le_refl _)]
  exact lk_run_mono X n2 (d + 1) j _ _ _ h1 _ e2 (n1 + n2) (d + 1) (by omega) (Nat.le_refl _)
/-! locals that are no more needed -/
def lk_le (lo' lo : List Value) : Prop := lo'.length = lo.length ∧ ∀ (k : Nat) (v : Value), lo'[k]? = some v → v = .retAddr 0 ∨ lo[k]? = some v
theorem lk_le.set {lo' lo l1 : List Value} {i : Nat} {v : Value} (h : lk_le lo' lo) (e : lk_set lo' i v = some l1) : ∃ l2, lk_set lo i v = some l2 ∧ lk_le l1 l2 := by
  unfold lk_set at e
  split at e
  · rename_i hi
    cases e
    refine ⟨(lk_clr lo i).set i v, by unfold lk_set; rw [if_pos (by rw [← h.1]; exact hi)], by rw [List.length_set, List.length_set, lk_clr_len, lk_clr_len]; exact h.1, fun k w hk => ?_⟩
    rw [List.getElem?_set, lk_clr_len] at hk ⊢
    by_cases hki : i = k
    · rw [if_pos hki] at hk ⊢
      rw [if_pos hi] at hk
      rw [if_pos (by rw [← h.1]; exact hi)]
      exact Or.inr hk
    · rw [if_neg hki] at hk ⊢
      by_cases hw : lk_v w = true
      · obtain ⟨h1, h2⟩ := lk_clr_at hk hw
        rcases h.2 k w h1 with h3 | h3
        · exact Or.inl h3
        · refine Or.inr ?_
          unfold lk_clr
          split
          · rename_i hp
            rw [List.getElem?_set]
            by_cases hk1 : i - 1 = k
            · exfalso
              cases i with
              | zero => cases hp
              | succ i =>
                have hik : i = k := by omega
                subst hik
                simp only [lk_pl, h3] at hp
                exact h2 rfl (beq_iff_eq.mp hp)
            · rw [if_neg hk1]
              exact h3
          · exact h3
      · refine Or.inl ?_
        unfold lk_v at hw
        split at hw
        · rfl
        · exact absurd rfl hw
  · cases e
theorem lk_le.set2 {lo' lo l1 : List Value} {i : Nat} {v : Value} (h : lk_le lo' lo) (e : lk_set2 lo' i v = some l1) : ∃ l2, lk_set2 lo i v = some l2 ∧ lk_le l1 l2 := by
  unfold lk_set2 at e
  split at e
  · rename_i hi
    cases e
    have e1 : lk_set lo' i v = some ((lk_clr lo' i).set i v) := by unfold lk_set; rw [if_pos (by omega)]
    obtain ⟨l2, e2, h2⟩ := h.set e1
    have e3 : l2 = (lk_clr lo i).set i v := by
      unfold lk_set at e2
      rw [if_pos (by rw [← h.1]; omega)] at e2
      exact (Option.some.inj e2).symm
    subst e3
    refine ⟨_, by unfold lk_set2; rw [if_pos (by rw [← h.1]; exact hi)], by rw [List.length_set, List.length_set, List.length_set, List.length_set, lk_clr_len, lk_clr_len]; exact h.1, fun k w hk => ?_⟩
    rw [List.getElem?_set] at hk ⊢
    by_cases hki : i + 1 = k
    · rw [if_pos hki] at hk
      split at hk
      · exact Or.inl (Option.some.inj hk).symm
      · cases hk
    · rw [if_neg hki] at hk ⊢
      exact h2.2 k w hk
  · cases e
theorem lk_le.at {lo' lo : List Value} {k : Nat} {v : Value} (h : lk_le lo' lo) (hk : lo'[k]? = some v) (hv : lk_v v = true) : lo[k]? = some v := by
  rcases h.2 k v hk with h1 | h1
  · subst h1; cases hv
  · exact h1
theorem lk_le.st1 {X : lk_X} {I : Instr} {len : Nat} {inf : lk_I} {pc : Nat} {lo' lo st : List Value} {h : lk_H} {q : lk_S} (hl : lk_le lo' lo) (hst : lk_st1 X I len inf pc lo' st h = some q) : ∃ l2, lk_st1 X I len inf pc lo st h = some (q.1, l2, q.2.2.1, q.2.2.2) ∧ lk_le q.2.1 l2 := by
  cases I
  case iload i => obtain ⟨x, h1, rfl⟩ := lk_ldi_inv hst; exact ⟨lo, by simp only [lk_st1, lk_ldi, hl.at h1 rfl], hl⟩
  case iload_n i => obtain ⟨x, h1, rfl⟩ := lk_ldi_inv hst; exact ⟨lo, by simp only [lk_st1, lk_ldi, hl.at h1 rfl], hl⟩
  case lload i => obtain ⟨x, h1, rfl⟩ := lk_ldl_inv hst; exact ⟨lo, by simp only [lk_st1, lk_ldl, hl.at h1 rfl], hl⟩
  case lload_n i => obtain ⟨x, h1, rfl⟩ := lk_ldl_inv hst; exact ⟨lo, by simp only [lk_st1, lk_ldl, hl.at h1 rfl], hl⟩
  case aload i =>
    simp only [lk_st1, lk_lda] at hst ⊢
    split at hst
    · rename_i h1; cases hst; exact ⟨lo, by rw [hl.at h1 rfl], hl⟩
    · rename_i h1; cases hst; exact ⟨lo, by rw [hl.at h1 rfl], hl⟩
    · rename_i h1; cases hst; exact ⟨lo, by rw [hl.at h1 rfl], hl⟩
    · cases hst
  case aload_n i =>
    simp only [lk_st1, lk_lda] at hst ⊢
    split at hst
    · rename_i h1; cases hst; exact ⟨lo, by rw [hl.at h1 rfl], hl⟩
    · rename_i h1; cases hst; exact ⟨lo, by rw [hl.at h1 rfl], hl⟩
    · rename_i h1; cases hst; exact ⟨lo, by rw [hl.at h1 rfl], hl⟩
    · cases hst
  case istore i => obtain ⟨x, r, l1, rfl, h1, rfl⟩ := lk_sti_inv hst; obtain ⟨l2, e2, h2⟩ := hl.set h1; exact ⟨l2, by simp only [lk_st1, lk_sti, e2]; rfl, h2⟩
  case istore_n i => obtain ⟨x, r, l1, rfl, h1, rfl⟩ := lk_sti_inv hst; obtain ⟨l2, e2, h2⟩ := hl.set h1; exact ⟨l2, by simp only [lk_st1, lk_sti, e2]; rfl, h2⟩
  case lstore i => obtain ⟨x, r, l1, rfl, h1, rfl⟩ := lk_stl_inv hst; obtain ⟨l2, e2, h2⟩ := hl.set2 h1; exact ⟨l2, by simp only [lk_st1, lk_stl, e2]; rfl, h2⟩
  case astore i =>
    obtain ⟨x, r, l1, rfl, h1, h3, rfl⟩ := lk_sta_inv hst
    obtain ⟨l2, e2, h2⟩ := hl.set h1
    rcases h3 with ⟨y, rfl⟩ | rfl <;> exact ⟨l2, by simp only [lk_st1, lk_sta, e2]; rfl, h2⟩
  case astore_n i =>
    obtain ⟨x, r, l1, rfl, h1, h3, rfl⟩ := lk_sta_inv hst
    obtain ⟨l2, e2, h2⟩ := hl.set h1
    rcases h3 with ⟨y, rfl⟩ | rfl <;> exact ⟨l2, by simp only [lk_st1, lk_sta, e2]; rfl, h2⟩
  case iinc i n => obtain ⟨x, y, l1, h0, h3, h1, rfl⟩ := lk_inc_inv hst; obtain ⟨l2, e2, h2⟩ := hl.set h1; exact ⟨l2, by simp only [lk_st1, lk_inc, hl.at h0 rfl, h3, e2]; rfl, h2⟩
  case ifCond c off =>
    simp only [lk_st1] at hst ⊢
    split at hst
    · cases c <;> simp only [lk_if] at hst ⊢ <;> split at hst <;> (rename_i hc; cases hst; exact ⟨lo, by first | rw [if_pos hc] | rw [if_neg hc], hl⟩)
    · cases hst
  case if_icmp c off =>
    simp only [lk_st1] at hst ⊢
    split at hst
    · cases c <;> simp only [lk_if] at hst ⊢ <;> split at hst <;> (rename_i hc; cases hst; exact ⟨lo, by first | rw [if_pos hc] | rw [if_neg hc], hl⟩)
    · cases hst
  case newarray a =>
    cases a <;> simp only [lk_st1, lk_newa] at hst ⊢
    case int =>
      split at hst
      · split at hst
        · cases hst
        · rename_i hc; cases hst; exact ⟨lo, by rw [if_neg hc], hl⟩
      · cases hst
    case boolean =>
      split at hst
      · split at hst
        · cases hst
        · rename_i hc; cases hst; exact ⟨lo, by rw [if_neg hc], hl⟩
      · cases hst
    all_goals cases hst
  case putfield i =>
    simp only [lk_st1, lk_putf] at hst ⊢
    split at hst
    · split at hst
      · split at hst
        · rename_i c1
          split at hst
          · rename_i c2
            split at hst
            · rename_i c3
              cases hst
              exact ⟨lo, by first | rfl | rw [if_pos c1, if_pos c2, if_pos c3], hl⟩
            · cases hst
          · cases hst
        · cases hst
      · cases hst
    · cases hst
  case new i =>
    simp only [lk_st1, lk_new] at hst ⊢
    split at hst
    · rename_i fs hf
      cases hst
      exact ⟨lo, by first | rfl | rw [hf], hl⟩
    · cases hst
  all_goals simp only [lk_st1] at hst ⊢
  all_goals (first | (cases hst; exact ⟨lo, rfl, hl⟩) | (cases hst; done) | skip)
  all_goals try simp only [lk_ii, lk_ll, lk_i1, lk_aldi, lk_asti, lk_aldz, lk_astz, lk_alda, lk_asta, lk_len, lk_getf, lk_putf, lk_newq, lk_new, lk_inst, lk_cast, lk_obj, lk_cpy, lk_mm] at hst ⊢
  all_goals repeat' (split at hst)
  all_goals (first | (cases hst; done) | skip)
  all_goals (first | (cases hst; refine ⟨lo, ?_, hl⟩; first | rfl | (simp [*]; done) | (simp_all; done)) | (obtain ⟨w, hw, rfl⟩ := Option.map_eq_some_iff.mp hst; refine ⟨lo, ?_, hl⟩; first | (simp [*]; done) | (simp_all; done)))
theorem lk_run_le2 (X : lk_X) : ∀ (n d j pc : Nat) (lo' lo st : List Value) (h : lk_H) (r : Option Value × lk_H), lk_le lo' lo → lk_run X n d j pc lo' st h = some r → lk_run X n d j pc lo st h = some r := by
  intro n
  induction n with
  | zero => intro d j pc lo' lo st h r _ e; cases e
  | succ n ih =>
    intro d j pc lo' lo st h r hl e
    rw [lk_run] at e ⊢
    split at e
    · cases e
    · rename_i I len inf hi
      split at e
      · cases e
      · rename_i M hM
        split at e
        · exact e
        · split at e
          · rename_i k as rest hc
            cases d with
            | zero => cases e
            | succ d =>
              try dsimp only at e ⊢
              split at e
              · rename_i hcs
                try rw [if_pos hcs]
                split at e
                · cases e
                · rename_i K hK
                  split at e
                  · rename_i hle
                    try rw [if_pos hle]
                    split at e
                    · cases e
                    · rename_i v1 h1 he
                      exact ih _ _ _ _ _ _ _ _ hl e
                  · cases e
              · cases e
          · rename_i hc
            split at e
            · cases e
            · rename_i pc' l1 st' h1 he
              obtain ⟨l2, e2, h2⟩ := hl.st1 he
              rw [e2]
              exact ih _ _ _ _ _ _ _ _ h2 e
theorem lk_wp.forget {X : lk_X} {d j pc : Nat} {lo' lo st : List Value} {h : lk_H} {Q : Option Value → lk_H → Prop} (hw : lk_wp X d j pc lo' st h Q) (hl : lk_le lo' lo) : lk_wp X d j pc lo st h Q := by
  obtain ⟨n, v, h', e, q⟩ := hw
  exact ⟨n, v, h', lk_run_le2 X n d j pc lo' lo st h _ hl e, q⟩
end
section
/-! rows by kinds of instructions; what a row asks is said as a proposition on what is read -/
def lk_isp : Instr → Bool
  | .iconst _ | .bipush _ | .sipush _ | .ldc _ | .lconst _ | .ldc2_w _ | .aconst_null | .iload _ | .iload_n _ | .lload _ | .lload_n _ | .aload _ | .aload_n _ | .istore _ | .istore_n _ | .lstore _ | .astore _ | .astore_n _ | .iinc _ _ | .iadd | .isub | .imul | .iand | .ior | .ishl | .ishr | .ladd | .lsub | .lmul | .lcmp | .i2l | .i2b | .i2s | .l2i | .dup | .dup2 | .goto _ => true
  | _ => false
noncomputable def lk_pure (j : Nat) : Nat → Nat → List Value → List Value → Option (Nat × List Value × List Value)
  | 0, pc, lo, st => some (pc, lo, st)
  | n + 1, pc, lo, st => match lk_ins j pc with
    | some (I, len, inf) => if lk_isp I = true then (match lk_st1 (0, fun _ => 0) I len inf pc lo st [] with
      | some q => lk_pure j n q.1 q.2.1 q.2.2.1
      | none => none) else none
    | none => none
theorem lk_isp_st1 {X : lk_X} {I : Instr} {len : Nat} {inf : lk_I} {pc : Nat} {lo st : List Value} {h : lk_H} {q : lk_S} (hp : lk_isp I = true) (e : lk_st1 (0, fun _ => 0) I len inf pc lo st [] = some q) : lk_st1 X I len inf pc lo st h = some (q.1, q.2.1, q.2.2.1, h) ∧ (∀ ret, lk_ret ret I st = none) ∧ lk_callee I inf st h = none := by
  have hcal : (∀ xi, (match I with
      | .invokestatic _ => true
      | .invokevirtual _ => true
      | .invokespecial _ => true
      | _ => xi) = xi) → lk_callee I inf st h = none := by
    intro hI
    unfold lk_callee
    split
    · split
      · split
        · exact absurd (hI false) (by simp)
        · exact absurd (hI false) (by simp)
        · exact absurd (hI false) (by simp)
        · rfl
      · rfl
    · rfl
  cases I <;> first | (simp [lk_isp] at hp; done) | skip
  all_goals refine ⟨?_, fun _ => rfl, hcal (fun _ => rfl)⟩
  all_goals simp only [lk_st1, lk_ldi, lk_ldl, lk_lda, lk_sti, lk_sta, lk_stl, lk_inc, lk_ii, lk_ll, lk_i1] at e ⊢
  all_goals first | (cases e; rfl) | skip
  all_goals repeat' (split at e)
  all_goals first | (cases e; done) | (cases e; rfl) | (obtain ⟨w, hw, rfl⟩ := Option.map_eq_some_iff.mp e; first | rfl | (simp [*]; done) | (simp_all; done)) | (cases e; simp_all; done) | skip
theorem lk_wp_pure {X : lk_X} {d j : Nat} {h : lk_H} {Q : Option Value → lk_H → Prop} {M : lk_M} (hM : lk_mt[j]? = some M) : ∀ (n pc : Nat) (lo st : List Value) (pc' : Nat) (lo' st' : List Value), lk_pure j n pc lo st = some (pc', lo', st') → lk_wp X d j pc' lo' st' h Q → lk_wp X d j pc lo st h Q := by
  intro n
  induction n with
  | zero => intro pc lo st pc' lo' st' e k; cases e; exact k
  | succ n ih =>
    intro pc lo st pc' lo' st' e k
    rw [lk_pure] at e
    split at e
    · rename_i I len inf hi
      split at e
      · rename_i hp
        split at e
        · rename_i q hq
          obtain ⟨h1, h2, h3⟩ := lk_isp_st1 (X := X) (h := h) hp hq
          exact lk_wp_step hi hM (h2 _) h3 h1 (ih _ _ _ _ _ _ e k)
        · cases e
      · cases e
    · cases e
end
section
/-! rows: one a kind of instruction; what it asks is a proposition on what is read, and what comes then -/
noncomputable def lk_pureL : List lk_E → List Value → List Value → Option (List Value × List Value)
  | [], lo, st => some (lo, st)
  | e :: es, lo, st => match lk_st1 (0, fun _ => 0) e.1 e.2.1 e.2.2 0 lo st [] with
    | some q => lk_pureL es q.2.1 q.2.2.1
    | none => none
def lk_nx (e : lk_E) (pc : Nat) : Nat := match e.1 with
  | .goto _ => e.2.2.1
  | _ => pc + e.2.1
def lk_dI : DecidableEq lk_I := inferInstance
def lk_dS : DecidableEq Instr := inferInstance
def lk_dE : DecidableEq lk_E := @instDecidableEqProd Instr (Nat × lk_I) lk_dS (@instDecidableEqProd Nat lk_I inferInstance lk_dI)
def lk_eqE (a b : Option lk_E) : Bool := match a, b with
  | some x, some y => @decide (x = y) (lk_dE x y)
  | _, _ => false
theorem lk_eqE_eq {a b : Option lk_E} (h : lk_eqE a b = true) : a = b := by
  unfold lk_eqE at h
  split at h
  · rename_i x y
    exact congrArg some (@of_decide_eq_true (x = y) (lk_dE x y) h)
  · cases h
def lk_seg (j : Nat) : List lk_E → Nat → Option Nat
  | [], pc => some pc
  | e :: es, pc => if lk_eqE (lk_ins j pc) (some e) = true ∧ lk_isp e.1 = true ∧ e.2.1 = lk_ln e.1 then lk_seg j es (lk_nx e pc) else none
theorem lk_isp_pc {e : lk_E} {pc : Nat} {lo st : List Value} {q : lk_S} (hp : lk_isp e.1 = true) (hl : e.2.1 = lk_ln e.1) (h : lk_st1 (0, fun _ => 0) e.1 e.2.1 e.2.2 0 lo st [] = some q) : lk_st1 (0, fun _ => 0) e.1 e.2.1 e.2.2 pc lo st [] = some (lk_nx e pc, q.2.1, q.2.2.1, []) := by
  obtain ⟨I, len, inf⟩ := e
  dsimp only at hp hl h ⊢
  subst hl
  unfold lk_nx
  cases I <;> first | (simp [lk_isp] at hp; done) | skip
  all_goals dsimp only [lk_ln]
  all_goals simp only [lk_st1, lk_ldi, lk_ldl, lk_lda, lk_sti, lk_sta, lk_stl, lk_inc, lk_ii, lk_ll, lk_i1] at h ⊢
  all_goals first | (cases h; rfl) | skip
  all_goals repeat' (split at h)
  all_goals first | (cases h; done) | (cases h; rfl) | (obtain ⟨w, hw, rfl⟩ := Option.map_eq_some_iff.mp h; first | rfl | (simp [*]; done) | (simp_all; done)) | (cases h; simp_all; done) | skip
section LKROWS
variable {X : lk_X} {d j pc : Nat} {lo : List Value} {h : lk_H} {Q : Option Value → lk_H → Prop} {len : Nat} {inf : lk_I} {M : lk_M} {r : List Value}
theorem lk_wp_seg (hM : lk_mt[j]? = some M) : ∀ {es : List lk_E} {pc pc' : Nat}, lk_seg j es pc = some pc' → ∀ {lo st lo' st' : List Value}, lk_pureL es lo st = some (lo', st') → lk_wp X d j pc' lo' st' h Q → lk_wp X d j pc lo st h Q := by
  intro es
  induction es with
  | nil => intro pc pc' hs lo st lo' st' he k; cases hs; cases he; exact k
  | cons e es ih =>
    intro pc pc' hs lo st lo' st' he k
    rw [lk_seg] at hs
    split at hs
    · rename_i hc
      rw [lk_pureL] at he
      split at he
      · rename_i q hq
        have h0 := lk_isp_pc (pc := pc) hc.2.1 hc.2.2 hq
        obtain ⟨h1, h2, h3⟩ := lk_isp_st1 (X := X) (h := h) hc.2.1 h0
        exact lk_wp_step (I := e.1) (len := e.2.1) (inf := e.2.2) (lk_eqE_eq hc.1) hM (h2 _) h3 h1 (ih hs he k)
      · cases he
    · cases hs
/-- one step whose outcome is plain -/
theorem lk_wp_one {I : Instr} {st lo' st' : List Value} {pc' : Nat} {h' : lk_H} (hi : lk_ins j pc = some (I, len, inf)) (hM : lk_mt[j]? = some M) (hr : lk_ret M.2.2.2 I st = none) (hc : lk_callee I inf st h = none) (hs : lk_st1 X I len inf pc lo st h = some (pc', lo', st', h')) (k : lk_wp X d j pc' lo' st' h' Q) : lk_wp X d j pc lo st h Q := lk_wp_step hi hM hr hc hs k
theorem lk_cal0 {I : Instr} {st : List Value} (hI : (match I with
      | .invokestatic _ => true
      | .invokevirtual _ => true
      | .invokespecial _ => true
      | _ => false) = false) : lk_callee I inf st h = none := by
  unfold lk_callee
  split
  · split
    · split
      · cases hI
      · cases hI
      · cases hI
      · rfl
    · rfl
  · rfl

theorem lk_wp_if_eq {x : Int32} {off : Int} {A B : Prop} (hi : lk_ins j pc = some (.ifCond .eq off, len, inf)) (hM : lk_mt[j]? = some M) (H : (x = 0 → A) ∧ (¬ x = 0 → B)) (k1 : A → lk_wp X d j inf.1 lo r h Q) (k2 : B → lk_wp X d j (pc + 3) lo r h Q) : lk_wp X d j pc lo (.int x :: r) h Q := by
  by_cases hc : x = 0
  · exact lk_wp_step (q := (inf.1, lo, r, h)) hi hM rfl (lk_cal0 rfl) (by simp only [lk_st1, lk_if]; exact if_pos hc) (k1 (H.1 hc))
  · exact lk_wp_step (q := (pc + 3, lo, r, h)) hi hM rfl (lk_cal0 rfl) (by simp only [lk_st1, lk_if]; exact if_neg hc) (k2 (H.2 hc))
theorem lk_wp_if_ne {x : Int32} {off : Int} {A B : Prop} (hi : lk_ins j pc = some (.ifCond .ne off, len, inf)) (hM : lk_mt[j]? = some M) (H : (¬ x = 0 → A) ∧ (x = 0 → B)) (k1 : A → lk_wp X d j inf.1 lo r h Q) (k2 : B → lk_wp X d j (pc + 3) lo r h Q) : lk_wp X d j pc lo (.int x :: r) h Q := by
  by_cases hc : x = 0
  · exact lk_wp_step (q := (pc + 3, lo, r, h)) hi hM rfl (lk_cal0 rfl) (by simp only [lk_st1, lk_if]; exact if_neg (fun q => q hc)) (k2 (H.2 hc))
  · exact lk_wp_step (q := (inf.1, lo, r, h)) hi hM rfl (lk_cal0 rfl) (by simp only [lk_st1, lk_if]; exact if_pos hc) (k1 (H.1 hc))
theorem lk_wp_if_lt {x : Int32} {off : Int} {A B : Prop} (hi : lk_ins j pc = some (.ifCond .lt off, len, inf)) (hM : lk_mt[j]? = some M) (H : (x < 0 → A) ∧ (¬ x < 0 → B)) (k1 : A → lk_wp X d j inf.1 lo r h Q) (k2 : B → lk_wp X d j (pc + 3) lo r h Q) : lk_wp X d j pc lo (.int x :: r) h Q := by
  by_cases hc : x < 0
  · exact lk_wp_step (q := (inf.1, lo, r, h)) hi hM rfl (lk_cal0 rfl) (by simp only [lk_st1, lk_if]; exact if_pos hc) (k1 (H.1 hc))
  · exact lk_wp_step (q := (pc + 3, lo, r, h)) hi hM rfl (lk_cal0 rfl) (by simp only [lk_st1, lk_if]; exact if_neg hc) (k2 (H.2 hc))
theorem lk_wp_if_ge {x : Int32} {off : Int} {A B : Prop} (hi : lk_ins j pc = some (.ifCond .ge off, len, inf)) (hM : lk_mt[j]? = some M) (H : (0 ≤ x → A) ∧ (¬ 0 ≤ x → B)) (k1 : A → lk_wp X d j inf.1 lo r h Q) (k2 : B → lk_wp X d j (pc + 3) lo r h Q) : lk_wp X d j pc lo (.int x :: r) h Q := by
  by_cases hc : 0 ≤ x
  · exact lk_wp_step (q := (inf.1, lo, r, h)) hi hM rfl (lk_cal0 rfl) (by simp only [lk_st1, lk_if]; exact if_pos hc) (k1 (H.1 hc))
  · exact lk_wp_step (q := (pc + 3, lo, r, h)) hi hM rfl (lk_cal0 rfl) (by simp only [lk_st1, lk_if]; exact if_neg hc) (k2 (H.2 hc))
theorem lk_wp_if_gt {x : Int32} {off : Int} {A B : Prop} (hi : lk_ins j pc = some (.ifCond .gt off, len, inf)) (hM : lk_mt[j]? = some M) (H : (0 < x → A) ∧ (¬ 0 < x → B)) (k1 : A → lk_wp X d j inf.1 lo r h Q) (k2 : B → lk_wp X d j (pc + 3) lo r h Q) : lk_wp X d j pc lo (.int x :: r) h Q := by
  by_cases hc : 0 < x
  · exact lk_wp_step (q := (inf.1, lo, r, h)) hi hM rfl (lk_cal0 rfl) (by simp only [lk_st1, lk_if]; exact if_pos hc) (k1 (H.1 hc))
  · exact lk_wp_step (q := (pc + 3, lo, r, h)) hi hM rfl (lk_cal0 rfl) (by simp only [lk_st1, lk_if]; exact if_neg hc) (k2 (H.2 hc))
theorem lk_wp_if_le {x : Int32} {off : Int} {A B : Prop} (hi : lk_ins j pc = some (.ifCond .le off, len, inf)) (hM : lk_mt[j]? = some M) (H : (x ≤ 0 → A) ∧ (¬ x ≤ 0 → B)) (k1 : A → lk_wp X d j inf.1 lo r h Q) (k2 : B → lk_wp X d j (pc + 3) lo r h Q) : lk_wp X d j pc lo (.int x :: r) h Q := by
  by_cases hc : x ≤ 0
  · exact lk_wp_step (q := (inf.1, lo, r, h)) hi hM rfl (lk_cal0 rfl) (by simp only [lk_st1, lk_if]; exact if_pos hc) (k1 (H.1 hc))
  · exact lk_wp_step (q := (pc + 3, lo, r, h)) hi hM rfl (lk_cal0 rfl) (by simp only [lk_st1, lk_if]; exact if_neg hc) (k2 (H.2 hc))
theorem lk_wp_ic_eq {x y : Int32} {off : Int} {A B : Prop} (hi : lk_ins j pc = some (.if_icmp .eq off, len, inf)) (hM : lk_mt[j]? = some M) (H : (x = y → A) ∧ (¬ x = y → B)) (k1 : A → lk_wp X d j inf.1 lo r h Q) (k2 : B → lk_wp X d j (pc + 3) lo r h Q) : lk_wp X d j pc lo (.int y :: .int x :: r) h Q := by
  by_cases hc : x = y
  · exact lk_wp_step (q := (inf.1, lo, r, h)) hi hM rfl (lk_cal0 rfl) (by simp only [lk_st1, lk_if]; exact if_pos hc) (k1 (H.1 hc))
  · exact lk_wp_step (q := (pc + 3, lo, r, h)) hi hM rfl (lk_cal0 rfl) (by simp only [lk_st1, lk_if]; exact if_neg hc) (k2 (H.2 hc))
theorem lk_wp_ic_ne {x y : Int32} {off : Int} {A B : Prop} (hi : lk_ins j pc = some (.if_icmp .ne off, len, inf)) (hM : lk_mt[j]? = some M) (H : (¬ x = y → A) ∧ (x = y → B)) (k1 : A → lk_wp X d j inf.1 lo r h Q) (k2 : B → lk_wp X d j (pc + 3) lo r h Q) : lk_wp X d j pc lo (.int y :: .int x :: r) h Q := by
  by_cases hc : x = y
  · exact lk_wp_step (q := (pc + 3, lo, r, h)) hi hM rfl (lk_cal0 rfl) (by simp only [lk_st1, lk_if]; exact if_neg (fun q => q hc)) (k2 (H.2 hc))
  · exact lk_wp_step (q := (inf.1, lo, r, h)) hi hM rfl (lk_cal0 rfl) (by simp only [lk_st1, lk_if]; exact if_pos hc) (k1 (H.1 hc))
theorem lk_wp_ic_lt {x y : Int32} {off : Int} {A B : Prop} (hi : lk_ins j pc = some (.if_icmp .lt off, len, inf)) (hM : lk_mt[j]? = some M) (H : (x < y → A) ∧ (¬ x < y → B)) (k1 : A → lk_wp X d j inf.1 lo r h Q) (k2 : B → lk_wp X d j (pc + 3) lo r h Q) : lk_wp X d j pc lo (.int y :: .int x :: r) h Q := by
  by_cases hc : x < y
  · exact lk_wp_step (q := (inf.1, lo, r, h)) hi hM rfl (lk_cal0 rfl) (by simp only [lk_st1, lk_if]; exact if_pos hc) (k1 (H.1 hc))
  · exact lk_wp_step (q := (pc + 3, lo, r, h)) hi hM rfl (lk_cal0 rfl) (by simp only [lk_st1, lk_if]; exact if_neg hc) (k2 (H.2 hc))
theorem lk_wp_ic_ge {x y : Int32} {off : Int} {A B : Prop} (hi : lk_ins j pc = some (.if_icmp .ge off, len, inf)) (hM : lk_mt[j]? = some M) (H : (y ≤ x → A) ∧ (¬ y ≤ x → B)) (k1 : A → lk_wp X d j inf.1 lo r h Q) (k2 : B → lk_wp X d j (pc + 3) lo r h Q) : lk_wp X d j pc lo (.int y :: .int x :: r) h Q := by
  by_cases hc : y ≤ x
  · exact lk_wp_step (q := (inf.1, lo, r, h)) hi hM rfl (lk_cal0 rfl) (by simp only [lk_st1, lk_if]; exact if_pos hc) (k1 (H.1 hc))
  · exact lk_wp_step (q := (pc + 3, lo, r, h)) hi hM rfl (lk_cal0 rfl) (by simp only [lk_st1, lk_if]; exact if_neg hc) (k2 (H.2 hc))
theorem lk_wp_ic_gt {x y : Int32} {off : Int} {A B : Prop} (hi : lk_ins j pc = some (.if_icmp .gt off, len, inf)) (hM : lk_mt[j]? = some M) (H : (y < x → A) ∧ (¬ y < x → B)) (k1 : A → lk_wp X d j inf.1 lo r h Q) (k2 : B → lk_wp X d j (pc + 3) lo r h Q) : lk_wp X d j pc lo (.int y :: .int x :: r) h Q := by
  by_cases hc : y < x
  · exact lk_wp_step (q := (inf.1, lo, r, h)) hi hM rfl (lk_cal0 rfl) (by simp only [lk_st1, lk_if]; exact if_pos hc) (k1 (H.1 hc))
  · exact lk_wp_step (q := (pc + 3, lo, r, h)) hi hM rfl (lk_cal0 rfl) (by simp only [lk_st1, lk_if]; exact if_neg hc) (k2 (H.2 hc))
theorem lk_wp_ic_le {x y : Int32} {off : Int} {A B : Prop} (hi : lk_ins j pc = some (.if_icmp .le off, len, inf)) (hM : lk_mt[j]? = some M) (H : (x ≤ y → A) ∧ (¬ x ≤ y → B)) (k1 : A → lk_wp X d j inf.1 lo r h Q) (k2 : B → lk_wp X d j (pc + 3) lo r h Q) : lk_wp X d j pc lo (.int y :: .int x :: r) h Q := by
  by_cases hc : x ≤ y
  · exact lk_wp_step (q := (inf.1, lo, r, h)) hi hM rfl (lk_cal0 rfl) (by simp only [lk_st1, lk_if]; exact if_pos hc) (k1 (H.1 hc))
  · exact lk_wp_step (q := (pc + 3, lo, r, h)) hi hM rfl (lk_cal0 rfl) (by simp only [lk_st1, lk_if]; exact if_neg hc) (k2 (H.2 hc))
def lk_fI (h : lk_H) (a k : Nat) (cs : List (Nat × Nat)) (K : Int32 → Prop) : Prop := ∃ c fs x, h[a]? = some (.inr (c, fs)) ∧ lk_has cs c = true ∧ fs[k]? = some (.int x) ∧ K x
def lk_fR (h : lk_H) (a k : Nat) (cs : List (Nat × Nat)) (K : Nat → Prop) : Prop := ∃ c fs x, h[a]? = some (.inr (c, fs)) ∧ lk_has cs c = true ∧ fs[k]? = some (.ref x) ∧ K x
def lk_pf (h : lk_H) (a k : Nat) (cs : List (Nat × Nat)) (v : Value) (K : lk_H → Prop) : Prop := ∃ c fs, h[a]? = some (.inr (c, fs)) ∧ lk_has cs c = true ∧ lk_fit ((lk_tyl[c]?).map (fun t => t k)) v = true ∧ k < fs.length ∧ K (h.set a (.inr (c, fs.set k v)))
def lk_ai (h : lk_H) (a : Nat) (i : Int32) (K : Int32 → Prop) : Prop := ∃ n f, h[a]? = some (.inl (0, (n, .inl f))) ∧ vp_in i n ∧ K (f i.toNatClampNeg)
def lk_as (h : lk_H) (a : Nat) (i v : Int32) (K : lk_H → Prop) : Prop := ∃ n f, h[a]? = some (.inl (0, (n, .inl f))) ∧ vp_in i n ∧ K (h.set a (.inl (0, (n, .inl (upd f i.toNatClampNeg v)))))
def lk_zi (h : lk_H) (a : Nat) (i : Int32) (K : Int32 → Prop) : Prop := ∃ n f, h[a]? = some (.inl (1, (n, .inl f))) ∧ vp_in i n ∧ K (f i.toNatClampNeg)
def lk_zs (h : lk_H) (a : Nat) (i v : Int32) (K : lk_H → Prop) : Prop := ∃ n f, h[a]? = some (.inl (1, (n, .inl f))) ∧ vp_in i n ∧ K (h.set a (.inl (1, (n, .inl (upd f i.toNatClampNeg (vp_nar .boolean v))))))
def lk_ra (h : lk_H) (a : Nat) (i : Int32) (A : Prop) (B : Nat → Prop) : Prop := ∃ t n f, h[a]? = some (.inl (t, (n, .inr (.inr (.inr (.inr f)))))) ∧ vp_in i n ∧ 2 ≤ t ∧ t ≤ 4 ∧ (f i.toNatClampNeg = none → A) ∧ ∀ x, f i.toNatClampNeg = some x → B x
def lk_rs (h : lk_H) (a : Nat) (i : Int32) (v : Nat) (K : lk_H → Prop) : Prop := ∃ t n f c fs, h[a]? = some (.inl (t, (n, .inr (.inr (.inr (.inr f)))))) ∧ vp_in i n ∧ h[v]? = some (.inr (c, fs)) ∧ lk_cm t c = true ∧ K (h.set a (.inl (t, (n, .inr (.inr (.inr (.inr (va_up f i.toNatClampNeg (some v)))))))))
def lk_rn (h : lk_H) (a : Nat) (i : Int32) (K : lk_H → Prop) : Prop := ∃ t n f, h[a]? = some (.inl (t, (n, .inr (.inr (.inr (.inr f)))))) ∧ vp_in i n ∧ 2 ≤ t ∧ t ≤ 4 ∧ K (h.set a (.inl (t, (n, .inr (.inr (.inr (.inr (va_up f i.toNatClampNeg none))))))))
def lk_al2 (h : lk_H) (a : Nat) (K : Int32 → Prop) : Prop := ∃ t x, h[a]? = some (.inl (t, x)) ∧ t ≤ 4 ∧ K (Int32.ofNat x.1)
def lk_io (h : lk_H) (a : Nat) (cs : List (Nat × Nat)) (K1 K0 : Prop) : Prop := ∃ c fs, h[a]? = some (.inr (c, fs)) ∧ (lk_find cs c = some 1 ∧ K1 ∨ lk_find cs c = some 0 ∧ K0)
def lk_cc (h : lk_H) (a : Nat) (cs : List (Nat × Nat)) (K : Prop) : Prop := ∃ c fs, h[a]? = some (.inr (c, fs)) ∧ lk_find cs c = some 1 ∧ K
def lk_nw (n : Int32) (K : Prop) : Prop := ¬ (n < 0 ∨ 65536 < n.toNatClampNeg) ∧ K
def lk_ac (h : lk_H) (a0 : Nat) (sp : Int32) (a1 : Nat) (dp n : Int32) (K : lk_H → Prop) : Prop := ∃ n0 f n1 g, h[a0]? = some (.inl (0, (n0, .inl f))) ∧ h[a1]? = some (.inl (0, (n1, .inl g))) ∧ ¬ (sp < 0 ∨ dp < 0 ∨ n < 0 ∨ n0 < sp.toNatClampNeg + n.toNatClampNeg ∨ n1 < dp.toNatClampNeg + n.toNatClampNeg) ∧ K (h.set a1 (.inl (0, (n1, .inl (va_cpy f g sp.toNatClampNeg dp.toNatClampNeg n.toNatClampNeg)))))
def lk_wxi (X : lk_X) (d k : Nat) (as : List Value) (h : lk_H) (K : Int32 → lk_H → Prop) : Prop := lk_wx X d k as h (fun v h1 => ∃ x, v = some (.int x) ∧ K x h1)
def lk_wxv (X : lk_X) (d k : Nat) (as : List Value) (h : lk_H) (K : lk_H → Prop) : Prop := lk_wx X d k as h (fun v h1 => v = none ∧ K h1)
def lk_wxr (X : lk_X) (d k : Nat) (as : List Value) (h : lk_H) (A : lk_H → Prop) (B : Nat → lk_H → Prop) : Prop := lk_wx X d k as h (fun v h1 => (v = some .null ∧ A h1) ∨ ∃ x, v = some (.ref x) ∧ B x h1)
/-- the method that a call selects on the object -/
def lk_vc (h : lk_H) (a : Nat) (l : List (Nat × Nat)) (K : Nat → Prop) : Prop := ∃ c fs k, h[a]? = some (.inr (c, fs)) ∧ lk_find l c = some k ∧ K k
def lk_ob (h : lk_H) (a : Nat) (K : Prop) : Prop := (∃ o, h[a]? = some (.inr o)) ∧ K
theorem lk_wp_fI {a : Nat} {idx : Nat} {K : Int32 → Prop} (hi : lk_ins j pc = some (.getfield idx, len, inf)) (hM : lk_mt[j]? = some M) (H : lk_fI h a inf.1 inf.2.1 K) (kk : ∀ x, K x → lk_wp X d j (pc + 3) lo (.int x :: r) h Q) : lk_wp X d j pc lo (.ref a :: r) h Q := by
  obtain ⟨c, fs, x, h1, h2, h3, h4⟩ := H
  exact lk_wp_step (q := (pc + 3, lo, .int x :: r, h)) hi hM rfl (lk_cal0 rfl) (by simp only [lk_st1, lk_getf, h1]; rw [if_pos h2, h3]; rfl) (kk x h4)
theorem lk_wp_fR {a : Nat} {idx : Nat} {K : Nat → Prop} (hi : lk_ins j pc = some (.getfield idx, len, inf)) (hM : lk_mt[j]? = some M) (H : lk_fR h a inf.1 inf.2.1 K) (kk : ∀ x, K x → lk_wp X d j (pc + 3) lo (.ref x :: r) h Q) : lk_wp X d j pc lo (.ref a :: r) h Q := by
  obtain ⟨c, fs, x, h1, h2, h3, h4⟩ := H
  exact lk_wp_step (q := (pc + 3, lo, .ref x :: r, h)) hi hM rfl (lk_cal0 rfl) (by simp only [lk_st1, lk_getf, h1]; rw [if_pos h2, h3]; rfl) (kk x h4)
theorem lk_wp_pf {a : Nat} {idx : Nat} {v : Value} {K : lk_H → Prop} (hi : lk_ins j pc = some (.putfield idx, len, inf)) (hM : lk_mt[j]? = some M) (H : lk_pf h a inf.1 inf.2.1 v K) (kk : ∀ h, K h → lk_wp X d j (pc + 3) lo r h Q) : lk_wp X d j pc lo (v :: .ref a :: r) h Q := by
  obtain ⟨c, fs, h1, h2, h3, h4, h5⟩ := H
  exact lk_wp_step (q := (pc + 3, lo, r, h.set a (.inr (c, fs.set inf.1 v)))) hi hM rfl (lk_cal0 rfl) (by simp only [lk_st1, lk_putf, h1]; rw [if_pos h2, if_pos h3, if_pos h4]) (kk _ h5)
theorem lk_wp_ai {a : Nat} {i : Int32} {K : Int32 → Prop} (hi : lk_ins j pc = some (.iaload, len, inf)) (hM : lk_mt[j]? = some M) (H : lk_ai h a i K) (kk : ∀ x, K x → lk_wp X d j (pc + 1) lo (.int x :: r) h Q) : lk_wp X d j pc lo (.int i :: .ref a :: r) h Q := by
  obtain ⟨n, f, h1, h2, h3⟩ := H
  exact lk_wp_step (q := (pc + 1, lo, .int (f i.toNatClampNeg) :: r, h)) hi hM rfl (lk_cal0 rfl) (by simp only [lk_st1, lk_aldi, h1]; exact if_neg h2) (kk _ h3)
theorem lk_wp_zi {a : Nat} {i : Int32} {K : Int32 → Prop} (hi : lk_ins j pc = some (.baload, len, inf)) (hM : lk_mt[j]? = some M) (H : lk_zi h a i K) (kk : ∀ x, K x → lk_wp X d j (pc + 1) lo (.int x :: r) h Q) : lk_wp X d j pc lo (.int i :: .ref a :: r) h Q := by
  obtain ⟨n, f, h1, h2, h3⟩ := H
  exact lk_wp_step (q := (pc + 1, lo, .int (f i.toNatClampNeg) :: r, h)) hi hM rfl (lk_cal0 rfl) (by simp only [lk_st1, lk_aldz, h1]; exact if_neg h2) (kk _ h3)
theorem lk_wp_sai {k : Nat} {i : Int32} {K : Prop} (hi : lk_ins j pc = some (.iaload, len, inf)) (hM : lk_mt[j]? = some M) (H : vp_in i X.1 ∧ K) (kk : K → lk_wp X d j (pc + 1) lo (.int (X.2 i.toNatClampNeg) :: r) h Q) : lk_wp X d j pc lo (.int i :: .retAddr k :: r) h Q := by
  exact lk_wp_step (q := (pc + 1, lo, .int (X.2 i.toNatClampNeg) :: r, h)) hi hM rfl (lk_cal0 rfl) (by simp only [lk_st1, lk_aldi]; exact if_neg H.1) (kk H.2)
theorem lk_wp_as {a : Nat} {i x : Int32} {K : lk_H → Prop} (hi : lk_ins j pc = some (.iastore, len, inf)) (hM : lk_mt[j]? = some M) (H : lk_as h a i x K) (kk : ∀ h, K h → lk_wp X d j (pc + 1) lo r h Q) : lk_wp X d j pc lo (.int x :: .int i :: .ref a :: r) h Q := by
  obtain ⟨n, f, h1, h2, h3⟩ := H
  exact lk_wp_step (q := (pc + 1, lo, r, h.set a (.inl (0, (n, .inl (upd f i.toNatClampNeg x)))))) hi hM rfl (lk_cal0 rfl) (by simp only [lk_st1, lk_asti, h1]; exact if_neg h2) (kk _ h3)
theorem lk_wp_zs {a : Nat} {i x : Int32} {K : lk_H → Prop} (hi : lk_ins j pc = some (.bastore, len, inf)) (hM : lk_mt[j]? = some M) (H : lk_zs h a i x K) (kk : ∀ h, K h → lk_wp X d j (pc + 1) lo r h Q) : lk_wp X d j pc lo (.int x :: .int i :: .ref a :: r) h Q := by
  obtain ⟨n, f, h1, h2, h3⟩ := H
  exact lk_wp_step (q := (pc + 1, lo, r, h.set a (.inl (1, (n, .inl (upd f i.toNatClampNeg (vp_nar .boolean x))))))) hi hM rfl (lk_cal0 rfl) (by simp only [lk_st1, lk_astz, h1]; exact if_neg h2) (kk _ h3)
theorem lk_wp_ra {a : Nat} {i : Int32} {A : Prop} {B : Nat → Prop} (hi : lk_ins j pc = some (.aaload, len, inf)) (hM : lk_mt[j]? = some M) (H : lk_ra h a i A B) (kk : (A → lk_wp X d j (pc + 1) lo (.null :: r) h Q) ∧ ∀ x, B x → lk_wp X d j (pc + 1) lo (.ref x :: r) h Q) : lk_wp X d j pc lo (.int i :: .ref a :: r) h Q := by
  obtain ⟨t, n, f, h1, h2, h3, h4, h5, h6⟩ := H
  cases hf : f i.toNatClampNeg with
  | none => exact lk_wp_step (q := (pc + 1, lo, .null :: r, h)) hi hM rfl (lk_cal0 rfl) (by simp only [lk_st1, lk_alda, h1]; rw [if_neg h2, if_pos ⟨h3, h4⟩, hf]; rfl) (kk.1 (h5 hf))
  | some x => exact lk_wp_step (q := (pc + 1, lo, .ref x :: r, h)) hi hM rfl (lk_cal0 rfl) (by simp only [lk_st1, lk_alda, h1]; rw [if_neg h2, if_pos ⟨h3, h4⟩, hf]; rfl) (kk.2 x (h6 x hf))
theorem lk_wp_rs {a v : Nat} {i : Int32} {K : lk_H → Prop} (hi : lk_ins j pc = some (.aastore, len, inf)) (hM : lk_mt[j]? = some M) (H : lk_rs h a i v K) (kk : ∀ h, K h → lk_wp X d j (pc + 1) lo r h Q) : lk_wp X d j pc lo (.ref v :: .int i :: .ref a :: r) h Q := by
  obtain ⟨t, n, f, c, fs, h1, h2, h3, h4, h5⟩ := H
  exact lk_wp_step (q := (pc + 1, lo, r, h.set a (.inl (t, (n, .inr (.inr (.inr (.inr (va_up f i.toNatClampNeg (some v)))))))))) hi hM rfl (lk_cal0 rfl) (by simp only [lk_st1, lk_asta, h1]; rw [if_neg h2]; simp only [h3]; exact if_pos h4) (kk _ h5)
theorem lk_wp_rn {a : Nat} {i : Int32} {K : lk_H → Prop} (hi : lk_ins j pc = some (.aastore, len, inf)) (hM : lk_mt[j]? = some M) (H : lk_rn h a i K) (kk : ∀ h, K h → lk_wp X d j (pc + 1) lo r h Q) : lk_wp X d j pc lo (.null :: .int i :: .ref a :: r) h Q := by
  obtain ⟨t, n, f, h1, h2, h3, h4, h5⟩ := H
  exact lk_wp_step (q := (pc + 1, lo, r, h.set a (.inl (t, (n, .inr (.inr (.inr (.inr (va_up f i.toNatClampNeg none))))))))) hi hM rfl (lk_cal0 rfl) (by simp only [lk_st1, lk_asta, h1]; rw [if_neg h2]; exact if_pos ⟨h3, h4⟩) (kk _ h5)
theorem lk_wp_al {a : Nat} {K : Int32 → Prop} (hi : lk_ins j pc = some (.arraylength, len, inf)) (hM : lk_mt[j]? = some M) (H : lk_al2 h a K) (kk : ∀ x, K x → lk_wp X d j (pc + 1) lo (.int x :: r) h Q) : lk_wp X d j pc lo (.ref a :: r) h Q := by
  obtain ⟨t, x, h1, h2, h3⟩ := H
  exact lk_wp_step (q := (pc + 1, lo, .int (Int32.ofNat x.1) :: r, h)) hi hM rfl (lk_cal0 rfl) (by simp only [lk_st1, lk_len, h1]; exact if_pos h2) (kk _ h3)
theorem lk_wp_sal {k : Nat} {K : Prop} (hi : lk_ins j pc = some (.arraylength, len, inf)) (hM : lk_mt[j]? = some M) (H : K) (kk : K → lk_wp X d j (pc + 1) lo (.int (Int32.ofNat X.1) :: r) h Q) : lk_wp X d j pc lo (.retAddr k :: r) h Q := by
  exact lk_wp_step (q := (pc + 1, lo, .int (Int32.ofNat X.1) :: r, h)) hi hM rfl (lk_cal0 rfl) rfl (kk H)
theorem lk_wp_io {a : Nat} {idx : Nat} {A B : Prop} (hi : lk_ins j pc = some (.instanceof idx, len, inf)) (hM : lk_mt[j]? = some M) (H : lk_io h a inf.2.1 A B) (kk : (A → lk_wp X d j (pc + 3) lo (.int 1 :: r) h Q) ∧ (B → lk_wp X d j (pc + 3) lo (.int 0 :: r) h Q)) : lk_wp X d j pc lo (.ref a :: r) h Q := by
  obtain ⟨c, fs, h1, ⟨h2, h3⟩ | ⟨h2, h3⟩⟩ := H
  · exact lk_wp_step (q := (pc + 3, lo, .int 1 :: r, h)) hi hM rfl (lk_cal0 rfl) (by simp only [lk_st1, lk_inst, h1, h2]) (kk.1 h3)
  · exact lk_wp_step (q := (pc + 3, lo, .int 0 :: r, h)) hi hM rfl (lk_cal0 rfl) (by simp only [lk_st1, lk_inst, h1, h2]) (kk.2 h3)
theorem lk_wp_cc {a : Nat} {idx : Nat} {A : Prop} (hi : lk_ins j pc = some (.checkcast idx, len, inf)) (hM : lk_mt[j]? = some M) (H : lk_cc h a inf.2.1 A) (kk : A → lk_wp X d j (pc + 3) lo (.ref a :: r) h Q) : lk_wp X d j pc lo (.ref a :: r) h Q := by
  obtain ⟨c, fs, h1, h2, h3⟩ := H
  exact lk_wp_step (q := (pc + 3, lo, .ref a :: r, h)) hi hM rfl (lk_cal0 rfl) (by simp only [lk_st1, lk_cast, h1, h2]) (kk h3)
theorem lk_wp_div {x y : Int32} {A : Prop} (hi : lk_ins j pc = some (.idiv, len, inf)) (hM : lk_mt[j]? = some M) (H : ¬ y = 0 ∧ A) (kk : A → lk_wp X d j (pc + 1) lo (.int (x / y) :: r) h Q) : lk_wp X d j pc lo (.int y :: .int x :: r) h Q := by
  exact lk_wp_step (q := (pc + 1, lo, .int (x / y) :: r, h)) hi hM rfl (lk_cal0 rfl) (by simp only [lk_st1, lk_ii]; rw [if_neg H.1]; rfl) (kk H.2)
theorem lk_wp_rem {x y : Int32} {A : Prop} (hi : lk_ins j pc = some (.irem, len, inf)) (hM : lk_mt[j]? = some M) (H : ¬ y = 0 ∧ A) (kk : A → lk_wp X d j (pc + 1) lo (.int (x - x / y * y) :: r) h Q) : lk_wp X d j pc lo (.int y :: .int x :: r) h Q := by
  exact lk_wp_step (q := (pc + 1, lo, .int (x - x / y * y) :: r, h)) hi hM rfl (lk_cal0 rfl) (by simp only [lk_st1, lk_ii]; rw [if_neg H.1]; rfl) (kk H.2)
theorem lk_wp_new_int {n : Int32} {A : Prop} (hi : lk_ins j pc = some (.newarray .int, len, inf)) (hM : lk_mt[j]? = some M) (H : lk_nw n A) (kk : A → lk_wp X d j (pc + 2) lo (.ref h.length :: r) (h ++ [.inl (0, (n.toNatClampNeg, .inl (fun _ => 0)))]) Q) : lk_wp X d j pc lo (.int n :: r) h Q := by
  exact lk_wp_step (q := (pc + 2, lo, .ref h.length :: r, h ++ [.inl (0, (n.toNatClampNeg, .inl (fun _ => 0)))])) hi hM rfl (lk_cal0 rfl) (by simp only [lk_st1, lk_newa]; exact if_neg H.1) (kk H.2)
theorem lk_wp_new_bool {n : Int32} {A : Prop} (hi : lk_ins j pc = some (.newarray .boolean, len, inf)) (hM : lk_mt[j]? = some M) (H : lk_nw n A) (kk : A → lk_wp X d j (pc + 2) lo (.ref h.length :: r) (h ++ [.inl (1, (n.toNatClampNeg, .inl (fun _ => 0)))]) Q) : lk_wp X d j pc lo (.int n :: r) h Q := by
  exact lk_wp_step (q := (pc + 2, lo, .ref h.length :: r, h ++ [.inl (1, (n.toNatClampNeg, .inl (fun _ => 0)))])) hi hM rfl (lk_cal0 rfl) (by simp only [lk_st1, lk_newa]; exact if_neg H.1) (kk H.2)
theorem lk_wp_newq {n : Int32} {idx : Nat} {A : Prop} (hi : lk_ins j pc = some (.anewarray idx, len, inf)) (hM : lk_mt[j]? = some M) (H : (2 ≤ inf.1 ∧ inf.1 ≤ 4) ∧ lk_nw n A) (kk : A → lk_wp X d j (pc + 3) lo (.ref h.length :: r) (h ++ [.inl (inf.1, (n.toNatClampNeg, .inr (.inr (.inr (.inr (fun _ => none))))))]) Q) : lk_wp X d j pc lo (.int n :: r) h Q := by
  exact lk_wp_step (q := (pc + 3, lo, .ref h.length :: r, h ++ [.inl (inf.1, (n.toNatClampNeg, .inr (.inr (.inr (.inr (fun _ => none))))))])) hi hM rfl (lk_cal0 rfl) (by simp only [lk_st1, lk_newq]; rw [if_neg H.2.1]; exact if_pos H.1) (kk H.2.2)
theorem lk_wp_new {idx : Nat} {fs : List Value} (hi : lk_ins j pc = some (.new idx, len, inf)) (hM : lk_mt[j]? = some M) (hf : lk_df[inf.1]? = some fs) (kk : lk_wp X d j (pc + 3) lo (.ref h.length :: r) (h ++ [.inr (inf.1, fs)]) Q) : lk_wp X d j pc lo r h Q := by
  exact lk_wp_step (q := (pc + 3, lo, .ref h.length :: r, h ++ [.inr (inf.1, fs)])) hi hM rfl (lk_cal0 rfl) (by simp only [lk_st1, lk_new, hf]) kk
theorem lk_wp_sw {x : Int32} {dd lw hh : Int} {offs : Array Int} (hi : lk_ins j pc = some (.tableswitch dd lw hh offs, len, inf)) (hM : lk_mt[j]? = some M) (kk : lk_wp X d j (lk_sw inf.2.1 inf.1 x) lo r h Q) : lk_wp X d j pc lo (.int x :: r) h Q := lk_wp_step (q := (lk_sw inf.2.1 inf.1 x, lo, r, h)) hi hM rfl (lk_cal0 rfl) rfl kk
theorem lk_wp_ls {x : Int32} {dd : Int} {ps : Array (Int × Int)} (hi : lk_ins j pc = some (.lookupswitch dd ps, len, inf)) (hM : lk_mt[j]? = some M) (kk : lk_wp X d j (lk_sw inf.2.1 inf.1 x) lo r h Q) : lk_wp X d j pc lo (.int x :: r) h Q := lk_wp_step (q := (lk_sw inf.2.1 inf.1 x, lo, r, h)) hi hM rfl (lk_cal0 rfl) rfl kk
theorem lk_wp_swc {x : Int32} {v t dd : Nat} {l : List (Nat × Nat)} {A B : Prop} (H : (x = Int32.ofNat v → A) ∧ (¬ x = Int32.ofNat v → B)) (k1 : A → lk_wp X d j t lo r h Q) (k2 : B → lk_wp X d j (lk_sw l dd x) lo r h Q) : lk_wp X d j (lk_sw ((v, t) :: l) dd x) lo r h Q := by
  simp only [lk_sw]
  by_cases hc : x = Int32.ofNat v
  · rw [if_pos hc]; exact k1 (H.1 hc)
  · rw [if_neg hc]; exact k2 (H.2 hc)
theorem lk_cap {xi : Nat} {Y : MethodName × String × Nat × Nat} {idx : Nat} {st : List Value} (h1 : inf.2.2 = .null) : lk_callee (.invokestatic idx) inf st h = none := by
  unfold lk_callee
  rw [h1]
theorem lk_wp_max {x y : Int32} {idx : Nat} (hi : lk_ins j pc = some (.invokestatic idx, len, inf)) (hM : lk_mt[j]? = some M) (h1 : inf.1 = 102) (h2 : inf.2.2 = .null) (hc : (r.map fun v => v.category).sum ≤ 8) (kk : lk_wp X d j (pc + 3) lo (.int (if x < y then y else x) :: r) h Q) : lk_wp X d j pc lo (.int y :: .int x :: r) h Q := lk_wp_step (q := (pc + 3, lo, .int (if x < y then y else x) :: r, h)) hi hM rfl (by unfold lk_callee; rw [h2]) (by simp only [lk_st1, lk_mm]; rw [if_neg (by omega), if_pos hc, if_pos h1]) kk
theorem lk_wp_min {x y : Int32} {idx : Nat} (hi : lk_ins j pc = some (.invokestatic idx, len, inf)) (hM : lk_mt[j]? = some M) (h1 : inf.1 = 103) (h2 : inf.2.2 = .null) (hc : (r.map fun v => v.category).sum ≤ 8) (kk : lk_wp X d j (pc + 3) lo (.int (if y < x then y else x) :: r) h Q) : lk_wp X d j pc lo (.int y :: .int x :: r) h Q := lk_wp_step (q := (pc + 3, lo, .int (if y < x then y else x) :: r, h)) hi hM rfl (by unfold lk_callee; rw [h2]) (by simp only [lk_st1, lk_mm]; rw [if_neg (by omega), if_pos hc, if_neg (by omega), if_pos h1]) kk
theorem lk_wp_ac {n dp sp : Int32} {a0 a1 idx : Nat} {K : lk_H → Prop} (hi : lk_ins j pc = some (.invokestatic idx, len, inf)) (hM : lk_mt[j]? = some M) (h1 : inf.1 = 101) (h2 : inf.2.2 = .null) (hc : (r.map fun v => v.category).sum ≤ 8) (H : lk_ac h a0 sp a1 dp n K) (kk : ∀ h, K h → lk_wp X d j (pc + 3) lo r h Q) : lk_wp X d j pc lo (.int n :: .int dp :: .ref a1 :: .int sp :: .ref a0 :: r) h Q := by
  obtain ⟨n0, f, n1, g, e1, e2, e3, e4⟩ := H
  exact lk_wp_step (q := (pc + 3, lo, r, h.set a1 (.inl (0, (n1, .inl (va_cpy f g sp.toNatClampNeg dp.toNatClampNeg n.toNatClampNeg)))))) hi hM rfl (by unfold lk_callee; rw [h2]) (by simp only [lk_st1, lk_cpy, h1, if_true]; rw [if_pos hc]; simp only [e1, e2]; exact if_neg e3) (kk _ e4)
/-! calls -/
theorem lk_wp_cs {idx xi k q0 : Nat} {Y : MethodName × String × Nat × Nat} {qs : List (Nat × Nat)} {as st : List Value} (hi : lk_ins j pc = some (.invokestatic idx, len, inf)) (hM : lk_mt[j]? = some M) (h1 : inf.2.2 = .ref xi) (h2 : lk_xn[xi]? = some Y) (h3 : inf.2.1 = (q0, k) :: qs) (h4 : lk_pop Y.2.2.1 [] st = some (as, r)) (hc : (r.map fun v => v.category).sum ≤ 8)
    (kk : lk_wx X d k as h (fun v h1 => lk_wp X (d + 1) j (pc + 3) lo (v.toList ++ r) h1 Q)) : lk_wp X (d + 1) j pc lo st h Q := by
  refine lk_wp_call (k := k) (as := as) (rest := r) hi hM rfl ?_ hc kk
  unfold lk_callee
  rw [h1]; dsimp only
  rw [h2]; dsimp only
  rw [h3]; dsimp only
  rw [h4]; rfl
theorem lk_wp_cv {idx xi a : Nat} {Y : MethodName × String × Nat × Nat} {as st : List Value} {K : Nat → Prop} (hi : lk_ins j pc = some (.invokevirtual idx, len, inf)) (hM : lk_mt[j]? = some M) (h1 : inf.2.2 = .ref xi) (h2 : lk_xn[xi]? = some Y) (h4 : lk_pop Y.2.2.1 [] st = some (as, .ref a :: r)) (hc : (r.map fun v => v.category).sum ≤ 8)
    (H : lk_vc h a inf.2.1 K) (kk : ∀ k, K k → lk_wx X d k (.ref a :: as) h (fun v h1 => lk_wp X (d + 1) j (pc + 3) lo (v.toList ++ r) h1 Q)) : lk_wp X (d + 1) j pc lo st h Q := by
  obtain ⟨c, fs, k, e1, e2, e3⟩ := H
  refine lk_wp_call (k := k) (as := .ref a :: as) (rest := r) hi hM rfl ?_ hc (kk k e3)
  unfold lk_callee
  rw [h1]; dsimp only
  rw [h2]; dsimp only
  rw [h4]; dsimp only
  rw [e1]; dsimp only
  rw [e2]; rfl
theorem lk_wp_cp {idx xi a k q0 : Nat} {Y : MethodName × String × Nat × Nat} {qs : List (Nat × Nat)} {as st : List Value} {K : Prop} (hi : lk_ins j pc = some (.invokespecial idx, len, inf)) (hM : lk_mt[j]? = some M) (h1 : inf.2.2 = .ref xi) (h2 : lk_xn[xi]? = some Y) (h3 : inf.2.1 = (q0, k) :: qs) (h4 : lk_pop Y.2.2.1 [] st = some (as, .ref a :: r)) (hc : (r.map fun v => v.category).sum ≤ 8)
    (H : lk_ob h a K) (kk : K → lk_wx X d k (.ref a :: as) h (fun v h1 => lk_wp X (d + 1) j (pc + 3) lo (v.toList ++ r) h1 Q)) : lk_wp X (d + 1) j pc lo st h Q := by
  obtain ⟨⟨o, e1⟩, e3⟩ := H
  refine lk_wp_call (k := k) (as := .ref a :: as) (rest := r) hi hM rfl ?_ hc (kk e3)
  unfold lk_callee
  rw [h1]; dsimp only
  rw [h2]; dsimp only
  rw [h4]; dsimp only
  rw [h3]; dsimp only
  rw [e1]
theorem lk_gi {k : Nat} {as : List Value} {K : Int32 → lk_H → Prop} {P : Option Value → lk_H → Prop} (H : lk_wxi X d k as h K) (kk : ∀ x h, K x h → P (some (.int x)) h) : lk_wx X d k as h P := lk_wx.mono H (Nat.le_refl _) (fun v h hv => by obtain ⟨x, rfl, hk⟩ := hv; exact kk x h hk)
theorem lk_gv {k : Nat} {as : List Value} {K : lk_H → Prop} {P : Option Value → lk_H → Prop} (H : lk_wxv X d k as h K) (kk : ∀ h, K h → P none h) : lk_wx X d k as h P := lk_wx.mono H (Nat.le_refl _) (fun v h hv => by obtain ⟨rfl, hk⟩ := hv; exact kk h hk)
theorem lk_gr {k : Nat} {as : List Value} {A : lk_H → Prop} {B : Nat → lk_H → Prop} {P : Option Value → lk_H → Prop} (H : lk_wxr X d k as h A B) (k1 : ∀ h, A h → P (some .null) h) (k2 : ∀ x h, B x h → P (some (.ref x)) h) : lk_wx X d k as h P := lk_wx.mono H (Nat.le_refl _) (fun v h hv => by
  rcases hv with ⟨rfl, hk⟩ | ⟨x, rfl, hk⟩
  · exact k1 h hk
  · exact k2 x h hk)
/-- a method's entry -/
theorem lk_enter {k : Nat} {as lo : List Value} {K : lk_M} (hK : lk_mt[k]? = some K) (hl : lk_ent K.2.2.1 as = lo) (hx : (lk_ex as).length ≤ K.2.2.1) (kk : lk_wp X d k 0 lo [] h Q) : lk_wx X d k as h Q := ⟨K, hK, hx, by rw [hl]; exact kk⟩
end LKROWS
end
section
theorem lk_le_n : lk_le [] [] := ⟨rfl, fun k v h => by cases h⟩
theorem lk_le_s {v : Value} {a b : List Value} (h : lk_le a b) : lk_le (v :: a) (v :: b) := ⟨by simp [h.1], fun k w hk => by
  cases k with
  | zero => exact Or.inr hk
  | succ k => exact h.2 k w hk⟩
theorem lk_le_d {w : Value} {a b : List Value} (h : lk_le a b) : lk_le (.retAddr 0 :: a) (w :: b) := ⟨by simp [h.1], fun k u hk => by
  cases k with
  | zero => cases hk; exact Or.inl rfl
  | succ k => exact h.2 k u hk⟩
theorem lk_wp_retz {X : lk_X} {d j pc : Nat} {lo : List Value} {h : lk_H} {Q : Option Value → lk_H → Prop} {len : Nat} {inf : lk_I} {M : lk_M} {x : Int32} (hi : lk_ins j pc = some (.ireturn, len, inf)) (hM : lk_mt[j]? = some M) (hr : M.2.2.2 = some .boolean) (H : (x = 0 ∨ x = 1) ∧ Q (some (.int x)) h) : lk_wp X d j pc lo [.int x] h Q := by
  refine lk_wp_ret (v := some (.int x)) hi hM ?_ H.2
  unfold lk_ret
  rw [hr]
  exact if_pos H.1
/-! LonelyDots$Lonely.<init>([I)V -/
theorem lk_M0 : lk_mt[0]? = some (yX0_init, cX0_init, 2, ((none))) := rfl
theorem lk_s0_0_2 : lk_seg 0 [(.aload_n 0, 1, (0, [], .null)), (.aload_n 1, 1, (0, [], .null))] 0 = some 2 := by decide +kernel
theorem lk_i0_2 : lk_ins 0 2 = some (.invokespecial 3, 3, (3, [(0, 27)], .ref 0)) := lk_eqE_eq (by decide +kernel)
theorem lk_i0_5 : lk_ins 0 5 = some (.return_, 1, (0, [], .null)) := lk_eqE_eq (by decide +kernel)
set_option maxRecDepth 20000 in
theorem E_l_init {X : lk_X} {d : Nat} {a0 a1 : Nat} {h : lk_H} {Q : Option Value → lk_H → Prop} (H : lk_ob h a0 (lk_wxv X d 27 [.ref a0, .ref a1] h (fun h1 => Q none h1))) : lk_wx X (d + 1) 0 [.ref a0, .ref a1] h Q := by
  refine lk_enter (lo := [.ref a0, .ref a1]) lk_M0 rfl (Nat.le_of_ble_eq_true rfl) ?_
  refine lk_wp_seg (lo' := [.ref a0, .ref a1]) (st' := [.ref a1, .ref a0]) lk_M0 lk_s0_0_2 rfl ?_
  refine lk_wp_cp (as := [.ref a1]) (r := []) (a := a0) lk_i0_2 lk_M0 rfl rfl rfl rfl (Nat.le_of_ble_eq_true rfl) H (fun H => lk_gv H (fun h1 H => ?_))
  exact lk_wp_ret lk_i0_5 lk_M0 rfl H
/-! LonelyDots$Lonely.toldKind()I -/
theorem lk_M1 : lk_mt[1]? = some (yX0_toldKind, cX0_toldKind, 1, ((some FieldType.int))) := rfl
theorem lk_s1_0_1 : lk_seg 1 [(.iconst 2, 1, (0, [], .int (2)))] 0 = some 1 := by decide +kernel
theorem lk_i1_1 : lk_ins 1 1 = some (.ireturn, 1, (0, [], .null)) := lk_eqE_eq (by decide +kernel)
set_option maxRecDepth 20000 in
theorem E_l_toldKind {X : lk_X} {d : Nat} {a0 : Nat} {h : lk_H} {Q : Option Value → lk_H → Prop} (H : Q (some (.int 2)) h) : lk_wx X (d + 1) 1 [.ref a0] h Q := by
  refine lk_enter (lo := [.ref a0]) lk_M1 rfl (Nat.le_of_ble_eq_true rfl) ?_
  refine lk_wp_seg (lo' := [.ref a0]) (st' := [.int 2]) lk_M1 lk_s1_0_1 rfl ?_
  exact lk_wp_ret lk_i1_1 lk_M1 rfl H
/-! LonelyDots$Lonely.askMark(LLonelyDots$Trace;)I -/
theorem lk_M2 : lk_mt[2]? = some (yX0_askMark, cX0_askMark, 2, ((some FieldType.int))) := rfl
theorem lk_s2_0_2 : lk_seg 2 [(.aload_n 1, 1, (0, [], .null)), (.bipush 21, 2, (0, [], .int (21)))] 0 = some 3 := by decide +kernel
theorem lk_i2_3 : lk_ins 2 3 = some (.invokevirtual 9, 3, (1, [(9, 63)], .ref 1)) := lk_eqE_eq (by decide +kernel)
theorem lk_s2_6_3 : lk_seg 2 [(.iconst 2, 1, (0, [], .int (2))), (.aload_n 0, 1, (0, [], .null)), (.aload_n 1, 1, (0, [], .null))] 6 = some 9 := by decide +kernel
theorem lk_i2_9 : lk_ins 2 9 = some (.invokespecial 15, 3, (6, [(0, 57)], .ref 2)) := lk_eqE_eq (by decide +kernel)
theorem lk_s2_12_1 : lk_seg 2 [(.imul, 1, (0, [], .null))] 12 = some 13 := by decide +kernel
theorem lk_i2_13 : lk_ins 2 13 = some (.ireturn, 1, (0, [], .null)) := lk_eqE_eq (by decide +kernel)
set_option maxRecDepth 20000 in
theorem E_l_askMark {X : lk_X} {d : Nat} {a0 a1 : Nat} {h : lk_H} {Q : Option Value → lk_H → Prop} (H : lk_vc h a1 [(9, 63)] (fun k4 => lk_wxv X d k4 [.ref a1, .int 21] h (fun h1 => lk_ob h1 a0 (lk_wxi X d 57 [.ref a0, .ref a1] h1 (fun r3 h2 => Q (some (.int (2 * r3))) h2))))) : lk_wx X (d + 1) 2 [.ref a0, .ref a1] h Q := by
  refine lk_enter (lo := [.ref a0, .ref a1]) lk_M2 rfl (Nat.le_of_ble_eq_true rfl) ?_
  refine lk_wp_seg (lo' := [.ref a0, .ref a1]) (st' := [.int 21, .ref a1]) lk_M2 lk_s2_0_2 rfl ?_
  refine lk_wp_cv (as := [.int 21]) (r := []) (a := a1) lk_i2_3 lk_M2 rfl rfl rfl (Nat.le_of_ble_eq_true rfl) H (fun k4 H => lk_gv H (fun h1 H => ?_))
  refine lk_wp_seg (lo' := [.ref a0, .ref a1]) (st' := [.ref a1, .ref a0, .int 2]) lk_M2 lk_s2_6_3 rfl ?_
  refine lk_wp_cp (as := [.ref a1]) (r := [.int 2]) (a := a0) lk_i2_9 lk_M2 rfl rfl rfl rfl (Nat.le_of_ble_eq_true rfl) H (fun H => lk_gi H (fun r3 h2 H => ?_))
  refine lk_wp_seg (lo' := [.ref a0, .ref a1]) (st' := [.int (2 * r3)]) lk_M2 lk_s2_12_1 rfl ?_
  exact lk_wp_ret lk_i2_13 lk_M2 rfl H
/-! LonelyDots$LonelyList.<init>(I)V -/
theorem lk_M3 : lk_mt[3]? = some (yX1_init, cX1_init, 2, ((none))) := rfl
theorem lk_s3_0_1 : lk_seg 3 [(.aload_n 0, 1, (0, [], .null))] 0 = some 1 := by decide +kernel
theorem lk_i3_1 : lk_ins 3 1 = some (.invokespecial 3, 3, (100, [], .null)) := lk_eqE_eq (by decide +kernel)
theorem lk_s3_4_2 : lk_seg 3 [(.aload_n 0, 1, (0, [], .null)), (.sipush 200, 3, (0, [], .int (200)))] 4 = some 8 := by decide +kernel
theorem lk_i3_8 : lk_ins 3 8 = some (.newarray .int, 2, (0, [], .null)) := lk_eqE_eq (by decide +kernel)
theorem lk_i3_10 : lk_ins 3 10 = some (.putfield 11, 3, (2, [(1, 0)], .null)) := lk_eqE_eq (by decide +kernel)
theorem lk_s3_13_2 : lk_seg 3 [(.aload_n 0, 1, (0, [], .null)), (.iload_n 1, 1, (0, [], .null))] 13 = some 15 := by decide +kernel
theorem lk_i3_15 : lk_ins 3 15 = some (.newarray .int, 2, (0, [], .null)) := lk_eqE_eq (by decide +kernel)
theorem lk_i3_17 : lk_ins 3 17 = some (.putfield 15, 3, (0, [(1, 0)], .null)) := lk_eqE_eq (by decide +kernel)
theorem lk_s3_20_2 : lk_seg 3 [(.aload_n 0, 1, (0, [], .null)), (.iload_n 1, 1, (0, [], .null))] 20 = some 22 := by decide +kernel
theorem lk_i3_22 : lk_ins 3 22 = some (.newarray .int, 2, (0, [], .null)) := lk_eqE_eq (by decide +kernel)
theorem lk_i3_24 : lk_ins 3 24 = some (.putfield 18, 3, (1, [(1, 0)], .null)) := lk_eqE_eq (by decide +kernel)
theorem lk_i3_27 : lk_ins 3 27 = some (.return_, 1, (0, [], .null)) := lk_eqE_eq (by decide +kernel)
set_option maxRecDepth 20000 in
theorem E_ll_init {X : lk_X} {d : Nat} {x1 : Int32} {a0 : Nat} {h : lk_H} {Q : Option Value → lk_H → Prop} (H : lk_nw (200 : Int32) (lk_pf ((h ++ [.inl (0, ((200 : Int32).toNatClampNeg, .inl (fun _ => 0)))])) a0 2 [(1, 0)] (.ref (h.length)) (fun h1 => lk_nw x1 (lk_pf ((h1 ++ [.inl (0, (x1.toNatClampNeg, .inl (fun _ => 0)))])) a0 0 [(1, 0)] (.ref (h1.length)) (fun h2 => lk_nw x1 (lk_pf ((h2 ++ [.inl (0, (x1.toNatClampNeg, .inl (fun _ => 0)))])) a0 1 [(1, 0)] (.ref (h2.length)) (fun h3 => Q none h3))))))) : lk_wx X (d + 1) 3 [.ref a0, .int x1] h Q := by
  refine lk_enter (lo := [.ref a0, .int x1]) lk_M3 rfl (Nat.le_of_ble_eq_true rfl) ?_
  refine lk_wp_seg (lo' := [.ref a0, .int x1]) (st' := [.ref a0]) lk_M3 lk_s3_0_1 rfl ?_
  refine lk_wp_one lk_i3_1 lk_M3 rfl rfl rfl ?_
  refine lk_wp_seg (lo' := [.ref a0, .int x1]) (st' := [.int 200, .ref a0]) lk_M3 lk_s3_4_2 rfl ?_
  refine lk_wp_new_int lk_i3_8 lk_M3 H (fun H => ?_)
  refine lk_wp_pf lk_i3_10 lk_M3 H (fun h1 H => ?_)
  refine lk_wp_seg (lo' := [.ref a0, .int x1]) (st' := [.int x1, .ref a0]) lk_M3 lk_s3_13_2 rfl ?_
  refine lk_wp_new_int lk_i3_15 lk_M3 H (fun H => ?_)
  refine lk_wp_pf lk_i3_17 lk_M3 H (fun h2 H => ?_)
  refine lk_wp_seg (lo' := [.ref a0, .int x1]) (st' := [.int x1, .ref a0]) lk_M3 lk_s3_20_2 rfl ?_
  refine lk_wp_new_int lk_i3_22 lk_M3 H (fun H => ?_)
  refine lk_wp_pf lk_i3_24 lk_M3 H (fun h3 H => ?_)
  exact lk_wp_ret lk_i3_27 lk_M3 rfl H
/-! LonelyDots$LonelyList.searched(I)LLonelyDots$LonelyList; -/
theorem lk_M4 : lk_mt[4]? = some (yX1_searched, cX1_searched, 2, ((some (FieldType.object "LonelyDots$LonelyList")))) := rfl
theorem lk_i4_0 : lk_ins 4 0 = some (.new 9, 3, (1, [], .null)) := lk_eqE_eq (by decide +kernel)
theorem lk_s4_3_2 : lk_seg 4 [(.dup, 1, (0, [], .null)), (.iload_n 0, 1, (0, [], .null))] 3 = some 5 := by decide +kernel
theorem lk_i4_5 : lk_ins 4 5 = some (.invokespecial 21, 3, (3, [(0, 3)], .ref 3)) := lk_eqE_eq (by decide +kernel)
theorem lk_s4_8_3 : lk_seg 4 [(.astore_n 1, 1, (0, [], .null)), (.aload_n 1, 1, (0, [], .null)), (.iconst 0, 1, (0, [], .int (0)))] 8 = some 11 := by decide +kernel
theorem lk_i4_11 : lk_ins 4 11 = some (.invokestatic 24, 3, (0, [(0, 6)], .ref 4)) := lk_eqE_eq (by decide +kernel)
theorem lk_s4_14_1 : lk_seg 4 [(.aload_n 1, 1, (0, [], .null))] 14 = some 15 := by decide +kernel
theorem lk_i4_15 : lk_ins 4 15 = some (.areturn, 1, (0, [], .null)) := lk_eqE_eq (by decide +kernel)
set_option maxRecDepth 20000 in
theorem E_ll_searched {X : lk_X} {d : Nat} {x0 : Int32} {h : lk_H} {Q : Option Value → lk_H → Prop} (H : lk_ob ((h ++ [.inr (1, [.null, .null, .null, .int 0, .int 0])])) h.length (lk_wxv X d 3 [.ref (h.length), .int x0] ((h ++ [.inr (1, [.null, .null, .null, .int 0, .int 0])])) (fun h1 => lk_wxv X d 6 [.ref (h.length), .int 0] h1 (fun h2 => Q (some (.ref (h.length))) h2)))) : lk_wx X (d + 1) 4 [.int x0] h Q := by
  refine lk_enter (lo := [.int x0, .retAddr 0]) lk_M4 rfl (Nat.le_of_ble_eq_true rfl) ?_
  refine lk_wp_new lk_i4_0 lk_M4 rfl ?_
  refine lk_wp_seg (lo' := [.int x0, .retAddr 0]) (st' := [.int x0, .ref (h.length), .ref (h.length)]) lk_M4 lk_s4_3_2 rfl ?_
  refine lk_wp_cp (as := [.int x0]) (r := [.ref (h.length)]) (a := h.length) lk_i4_5 lk_M4 rfl rfl rfl rfl (Nat.le_of_ble_eq_true rfl) H (fun H => lk_gv H (fun h1 H => ?_))
  refine lk_wp_seg (lo' := [.int x0, .ref (h.length)]) (st' := [.int 0, .ref (h.length)]) lk_M4 lk_s4_8_3 rfl ?_
  refine lk_wp_cs (as := [.ref (h.length), .int 0]) (r := []) lk_i4_11 lk_M4 rfl rfl rfl rfl (Nat.le_of_ble_eq_true rfl) (lk_gv H (fun h2 H => ?_))
  refine lk_wp_seg (lo' := [.int x0, .ref (h.length)]) (st' := [.ref (h.length)]) lk_M4 lk_s4_14_1 rfl ?_
  exact lk_wp_ret lk_i4_15 lk_M4 rfl H
/-! LonelyDots$LonelyList.columnsOf(I)[I -/
theorem lk_M5 : lk_mt[5]? = some (yX1_columnsOf, cX1_columnsOf, 5, ((some (FieldType.array FieldType.int)))) := rfl
theorem lk_s5_0_1 : lk_seg 5 [(.aload_n 0, 1, (0, [], .null))] 0 = some 1 := by decide +kernel
theorem lk_i5_1 : lk_ins 5 1 = some (.getfield 15, 3, (0, [(1, 0)], .null)) := lk_eqE_eq (by decide +kernel)
theorem lk_i5_4 : lk_ins 5 4 = some (.arraylength, 1, (0, [], .null)) := lk_eqE_eq (by decide +kernel)
theorem lk_i5_5 : lk_ins 5 5 = some (.newarray .int, 2, (0, [], .null)) := lk_eqE_eq (by decide +kernel)
theorem lk_s5_7_2 : lk_seg 5 [(.astore_n 2, 1, (0, [], .null)), (.aload_n 0, 1, (0, [], .null))] 7 = some 9 := by decide +kernel
theorem lk_i5_9 : lk_ins 5 9 = some (.getfield 11, 3, (2, [(1, 0)], .null)) := lk_eqE_eq (by decide +kernel)
theorem lk_s5_12_1 : lk_seg 5 [(.iload_n 1, 1, (0, [], .null))] 12 = some 13 := by decide +kernel
theorem lk_i5_13 : lk_ins 5 13 = some (.iaload, 1, (0, [], .null)) := lk_eqE_eq (by decide +kernel)
theorem lk_s5_14_2 : lk_seg 5 [(.istore_n 3, 1, (0, [], .null)), (.aload_n 2, 1, (0, [], .null))] 14 = some 16 := by decide +kernel
theorem lk_i5_16 : lk_ins 5 16 = some (.arraylength, 1, (0, [], .null)) := lk_eqE_eq (by decide +kernel)
theorem lk_s5_17_3 : lk_seg 5 [(.iconst 1, 1, (0, [], .int (1))), (.isub, 1, (0, [], .null)), (.istore 4, 2, (0, [], .null))] 17 = some 21 := by decide +kernel
theorem lk_s5_21_1 : lk_seg 5 [(.iload 4, 2, (0, [], .null))] 21 = some 23 := by decide +kernel
theorem lk_i5_23 : lk_ins 5 23 = some (.ifCond .lt 21, 3, (44, [], .null)) := lk_eqE_eq (by decide +kernel)
theorem lk_s5_44_1 : lk_seg 5 [(.aload_n 2, 1, (0, [], .null))] 44 = some 45 := by decide +kernel
theorem lk_i5_45 : lk_ins 5 45 = some (.areturn, 1, (0, [], .null)) := lk_eqE_eq (by decide +kernel)
theorem lk_s5_26_5 : lk_seg 5 [(.aload_n 2, 1, (0, [], .null)), (.iload 4, 2, (0, [], .null)), (.iload_n 3, 1, (0, [], .null)), (.bipush 7, 2, (0, [], .int (7))), (.iand, 1, (0, [], .null))] 26 = some 33 := by decide +kernel
theorem lk_i5_33 : lk_ins 5 33 = some (.iastore, 1, (0, [], .null)) := lk_eqE_eq (by decide +kernel)
theorem lk_s5_34_6 : lk_seg 5 [(.iload_n 3, 1, (0, [], .null)), (.iconst 3, 1, (0, [], .int (3))), (.ishr, 1, (0, [], .null)), (.istore_n 3, 1, (0, [], .null)), (.iinc 4 (-1), 3, (0, [], .int (-1))), (.goto (-20), 3, (21, [], .null))] 34 = some 21 := by decide +kernel
set_option maxRecDepth 20000 in
theorem E_ll_columnsOf {X : lk_X} {d : Nat} {x1 : Int32} {a0 : Nat} {h : lk_H} {Q : Option Value → lk_H → Prop} (H : lk_fR h a0 0 [(1, 0)] (fun r1 => lk_al2 h r1 (fun r2 => lk_nw r2 (lk_fR ((h ++ [.inl (0, (r2.toNatClampNeg, .inl (fun _ => 0)))])) a0 2 [(1, 0)] (fun r3 => lk_ai ((h ++ [.inl (0, (r2.toNatClampNeg, .inl (fun _ => 0)))])) r3 x1 (fun r4 => lk_al2 ((h ++ [.inl (0, (r2.toNatClampNeg, .inl (fun _ => 0)))])) h.length (fun r5 => lk_wp X (d + 1) 5 21 [.retAddr 0, .retAddr 0, .ref (h.length), .int r4, .int (r5 - 1)] [] (h ++ [.inl (0, (r2.toNatClampNeg, .inl (fun _ => 0)))]) Q))))))) : lk_wx X (d + 1) 5 [.ref a0, .int x1] h Q := by
  refine lk_enter (lo := [.ref a0, .int x1, .retAddr 0, .retAddr 0, .retAddr 0]) lk_M5 rfl (Nat.le_of_ble_eq_true rfl) ?_
  refine lk_wp_seg (lo' := [.ref a0, .int x1, .retAddr 0, .retAddr 0, .retAddr 0]) (st' := [.ref a0]) lk_M5 lk_s5_0_1 rfl ?_
  refine lk_wp_fR lk_i5_1 lk_M5 H (fun r1 H => ?_)
  refine lk_wp_al lk_i5_4 lk_M5 H (fun r2 H => ?_)
  refine lk_wp_new_int lk_i5_5 lk_M5 H (fun H => ?_)
  refine lk_wp_seg (lo' := [.ref a0, .int x1, .ref (h.length), .retAddr 0, .retAddr 0]) (st' := [.ref a0]) lk_M5 lk_s5_7_2 rfl ?_
  refine lk_wp_fR lk_i5_9 lk_M5 H (fun r3 H => ?_)
  refine lk_wp_seg (lo' := [.ref a0, .int x1, .ref (h.length), .retAddr 0, .retAddr 0]) (st' := [.int x1, .ref r3]) lk_M5 lk_s5_12_1 rfl ?_
  refine lk_wp_ai lk_i5_13 lk_M5 H (fun r4 H => ?_)
  refine lk_wp_seg (lo' := [.ref a0, .int x1, .ref (h.length), .int r4, .retAddr 0]) (st' := [.ref (h.length)]) lk_M5 lk_s5_14_2 rfl ?_
  refine lk_wp_al lk_i5_16 lk_M5 H (fun r5 H => ?_)
  refine lk_wp_seg (lo' := [.ref a0, .int x1, .ref (h.length), .int r4, .int (r5 - 1)]) (st' := []) lk_M5 lk_s5_17_3 rfl ?_
  exact H.forget (lk_le_d (lk_le_d (lk_le_s (lk_le_s (lk_le_s lk_le_n)))))
set_option maxRecDepth 20000 in
theorem F_ll_columnsOf_21 {X : lk_X} {d : Nat} {x3 x4 : Int32} {a2 : Nat} {h : lk_H} {Q : Option Value → lk_H → Prop} (H : (x4 < 0 → Q (some (.ref a2)) h) ∧ (¬ x4 < 0 → lk_as h a2 x4 (x3 &&& 7) (fun h1 => lk_wp X (d + 1) 5 21 [.retAddr 0, .retAddr 0, .ref a2, .int (x3 >>> (3 &&& 31)), .int (x4 + (-1))] [] h1 Q))) : lk_wp X (d + 1) 5 21 [.retAddr 0, .retAddr 0, .ref a2, .int x3, .int x4] [] h Q := by
  refine lk_wp_seg (lo' := [.retAddr 0, .retAddr 0, .ref a2, .int x3, .int x4]) (st' := [.int x4]) lk_M5 lk_s5_21_1 rfl ?_
  refine lk_wp_if_lt lk_i5_23 lk_M5 H (fun H => ?_) (fun H => ?_)
  · refine lk_wp_seg (lo' := [.retAddr 0, .retAddr 0, .ref a2, .int x3, .int x4]) (st' := [.ref a2]) lk_M5 lk_s5_44_1 rfl ?_
    exact lk_wp_ret lk_i5_45 lk_M5 rfl H
  · refine lk_wp_seg (lo' := [.retAddr 0, .retAddr 0, .ref a2, .int x3, .int x4]) (st' := [.int (x3 &&& 7), .int x4, .ref a2]) lk_M5 lk_s5_26_5 rfl ?_
    refine lk_wp_as lk_i5_33 lk_M5 H (fun h1 H => ?_)
    refine lk_wp_seg (lo' := [.retAddr 0, .retAddr 0, .ref a2, .int (x3 >>> (3 &&& 31)), .int (x4 + (-1))]) (st' := []) lk_M5 lk_s5_34_6 rfl ?_
    exact H
/-! LonelyDots$LonelyList.search(LLonelyDots$LonelyList;I)V -/
theorem lk_M6 : lk_mt[6]? = some (yX1_search, cX1_search, 3, ((none))) := rfl
theorem lk_s6_0_2 : lk_seg 6 [(.iload_n 1, 1, (0, [], .null)), (.aload_n 0, 1, (0, [], .null))] 0 = some 2 := by decide +kernel
theorem lk_i6_2 : lk_ins 6 2 = some (.getfield 15, 3, (0, [(1, 0)], .null)) := lk_eqE_eq (by decide +kernel)
theorem lk_i6_5 : lk_ins 6 5 = some (.arraylength, 1, (0, [], .null)) := lk_eqE_eq (by decide +kernel)
theorem lk_i6_6 : lk_ins 6 6 = some (.if_icmp .lt 8, 3, (14, [], .null)) := lk_eqE_eq (by decide +kernel)
theorem lk_s6_14_2 : lk_seg 6 [(.iconst 0, 1, (0, [], .int (0))), (.istore_n 2, 1, (0, [], .null))] 14 = some 16 := by decide +kernel
theorem lk_s6_9_1 : lk_seg 6 [(.aload_n 0, 1, (0, [], .null))] 9 = some 10 := by decide +kernel
theorem lk_i6_10 : lk_ins 6 10 = some (.invokevirtual 28, 3, (1, [(1, 8)], .ref 5)) := lk_eqE_eq (by decide +kernel)
theorem lk_i6_13 : lk_ins 6 13 = some (.return_, 1, (0, [], .null)) := lk_eqE_eq (by decide +kernel)
theorem lk_s6_16_2 : lk_seg 6 [(.iload_n 2, 1, (0, [], .null)), (.aload_n 0, 1, (0, [], .null))] 16 = some 18 := by decide +kernel
theorem lk_i6_18 : lk_ins 6 18 = some (.getfield 15, 3, (0, [(1, 0)], .null)) := lk_eqE_eq (by decide +kernel)
theorem lk_i6_21 : lk_ins 6 21 = some (.arraylength, 1, (0, [], .null)) := lk_eqE_eq (by decide +kernel)
theorem lk_i6_22 : lk_ins 6 22 = some (.if_icmp .ge 31, 3, (53, [], .null)) := lk_eqE_eq (by decide +kernel)
theorem lk_i6_53 : lk_ins 6 53 = some (.return_, 1, (0, [], .null)) := lk_eqE_eq (by decide +kernel)
theorem lk_s6_25_1 : lk_seg 6 [(.aload_n 0, 1, (0, [], .null))] 25 = some 26 := by decide +kernel
theorem lk_i6_26 : lk_ins 6 26 = some (.getfield 15, 3, (0, [(1, 0)], .null)) := lk_eqE_eq (by decide +kernel)
theorem lk_s6_29_2 : lk_seg 6 [(.iload_n 1, 1, (0, [], .null)), (.iload_n 2, 1, (0, [], .null))] 29 = some 31 := by decide +kernel
theorem lk_i6_31 : lk_ins 6 31 = some (.iastore, 1, (0, [], .null)) := lk_eqE_eq (by decide +kernel)
theorem lk_s6_32_2 : lk_seg 6 [(.aload_n 0, 1, (0, [], .null)), (.iload_n 1, 1, (0, [], .null))] 32 = some 34 := by decide +kernel
theorem lk_i6_34 : lk_ins 6 34 = some (.invokevirtual 31, 3, (1, [(1, 7)], .ref 6)) := lk_eqE_eq (by decide +kernel)
theorem lk_i6_37 : lk_ins 6 37 = some (.ifCond .eq 10, 3, (47, [], .null)) := lk_eqE_eq (by decide +kernel)
theorem lk_s6_47_2 : lk_seg 6 [(.iinc 2 1, 3, (0, [], .int (1))), (.goto (-34), 3, (16, [], .null))] 47 = some 16 := by decide +kernel
theorem lk_s6_40_4 : lk_seg 6 [(.aload_n 0, 1, (0, [], .null)), (.iload_n 1, 1, (0, [], .null)), (.iconst 1, 1, (0, [], .int (1))), (.iadd, 1, (0, [], .null))] 40 = some 44 := by decide +kernel
theorem lk_i6_44 : lk_ins 6 44 = some (.invokestatic 24, 3, (0, [(0, 6)], .ref 4)) := lk_eqE_eq (by decide +kernel)
set_option maxRecDepth 20000 in
theorem E_ll_search {X : lk_X} {d : Nat} {x1 : Int32} {a0 : Nat} {h : lk_H} {Q : Option Value → lk_H → Prop} (H : lk_fR h a0 0 [(1, 0)] (fun r1 => lk_al2 h r1 (fun r2 => (x1 < r2 → lk_wp X (d + 1) 6 16 [.ref a0, .int x1, .int 0] [] h Q) ∧ (¬ x1 < r2 → lk_vc h a0 [(1, 8)] (fun k4 => lk_wxv X d k4 [.ref a0] h (fun h3 => Q none h3)))))) : lk_wx X (d + 1) 6 [.ref a0, .int x1] h Q := by
  refine lk_enter (lo := [.ref a0, .int x1, .retAddr 0]) lk_M6 rfl (Nat.le_of_ble_eq_true rfl) ?_
  refine lk_wp_seg (lo' := [.ref a0, .int x1, .retAddr 0]) (st' := [.ref a0, .int x1]) lk_M6 lk_s6_0_2 rfl ?_
  refine lk_wp_fR lk_i6_2 lk_M6 H (fun r1 H => ?_)
  refine lk_wp_al lk_i6_5 lk_M6 H (fun r2 H => ?_)
  refine lk_wp_ic_lt lk_i6_6 lk_M6 H (fun H => ?_) (fun H => ?_)
  · refine lk_wp_seg (lo' := [.ref a0, .int x1, .int 0]) (st' := []) lk_M6 lk_s6_14_2 rfl ?_
    exact H
  · refine lk_wp_seg (lo' := [.ref a0, .int x1, .retAddr 0]) (st' := [.ref a0]) lk_M6 lk_s6_9_1 rfl ?_
    refine lk_wp_cv (as := []) (r := []) (a := a0) lk_i6_10 lk_M6 rfl rfl rfl (Nat.le_of_ble_eq_true rfl) H (fun k4 H => lk_gv H (fun h3 H => ?_))
    exact lk_wp_ret lk_i6_13 lk_M6 rfl H
set_option maxRecDepth 20000 in
theorem F_ll_search_16 {X : lk_X} {d : Nat} {x1 x2 : Int32} {a0 : Nat} {h : lk_H} {Q : Option Value → lk_H → Prop} (H : lk_fR h a0 0 [(1, 0)] (fun r1 => lk_al2 h r1 (fun r2 => (r2 ≤ x2 → Q none h) ∧ (¬ r2 ≤ x2 → lk_fR h a0 0 [(1, 0)] (fun r3 => lk_as h r3 x1 x2 (fun h4 => lk_vc h4 a0 [(1, 7)] (fun k8 => lk_wxi X d k8 [.ref a0, .int x1] h4 (fun r6 h5 => (r6 = 0 → lk_wp X (d + 1) 6 16 [.ref a0, .int x1, .int (x2 + 1)] [] h5 Q) ∧ (¬ r6 = 0 → lk_wxv X d 6 [.ref a0, .int (x1 + 1)] h5 (fun h7 => lk_wp X (d + 1) 6 16 [.ref a0, .int x1, .int (x2 + 1)] [] h7 Q)))))))))) : lk_wp X (d + 1) 6 16 [.ref a0, .int x1, .int x2] [] h Q := by
  refine lk_wp_seg (lo' := [.ref a0, .int x1, .int x2]) (st' := [.ref a0, .int x2]) lk_M6 lk_s6_16_2 rfl ?_
  refine lk_wp_fR lk_i6_18 lk_M6 H (fun r1 H => ?_)
  refine lk_wp_al lk_i6_21 lk_M6 H (fun r2 H => ?_)
  refine lk_wp_ic_ge lk_i6_22 lk_M6 H (fun H => ?_) (fun H => ?_)
  · exact lk_wp_ret lk_i6_53 lk_M6 rfl H
  · refine lk_wp_seg (lo' := [.ref a0, .int x1, .int x2]) (st' := [.ref a0]) lk_M6 lk_s6_25_1 rfl ?_
    refine lk_wp_fR lk_i6_26 lk_M6 H (fun r3 H => ?_)
    refine lk_wp_seg (lo' := [.ref a0, .int x1, .int x2]) (st' := [.int x2, .int x1, .ref r3]) lk_M6 lk_s6_29_2 rfl ?_
    refine lk_wp_as lk_i6_31 lk_M6 H (fun h4 H => ?_)
    refine lk_wp_seg (lo' := [.ref a0, .int x1, .int x2]) (st' := [.int x1, .ref a0]) lk_M6 lk_s6_32_2 rfl ?_
    refine lk_wp_cv (as := [.int x1]) (r := []) (a := a0) lk_i6_34 lk_M6 rfl rfl rfl (Nat.le_of_ble_eq_true rfl) H (fun k8 H => lk_gi H (fun r6 h5 H => ?_))
    refine lk_wp_if_eq lk_i6_37 lk_M6 H (fun H => ?_) (fun H => ?_)
    · refine lk_wp_seg (lo' := [.ref a0, .int x1, .int (x2 + 1)]) (st' := []) lk_M6 lk_s6_47_2 rfl ?_
      exact H
    · refine lk_wp_seg (lo' := [.ref a0, .int x1, .int x2]) (st' := [.int (x1 + 1), .ref a0]) lk_M6 lk_s6_40_4 rfl ?_
      refine lk_wp_cs (as := [.ref a0, .int (x1 + 1)]) (r := []) lk_i6_44 lk_M6 rfl rfl rfl rfl (Nat.le_of_ble_eq_true rfl) (lk_gv H (fun h7 H => ?_))
      refine lk_wp_seg (lo' := [.ref a0, .int x1, .int (x2 + 1)]) (st' := []) lk_M6 lk_s6_47_2 rfl ?_
      exact H
/-! LonelyDots$LonelyList.isLonelyUpTo(I)Z -/
theorem lk_M7 : lk_mt[7]? = some (yX1_isLonelyUpTo, cX1_isLonelyUpTo, 5, ((some FieldType.boolean))) := rfl
theorem lk_s7_0_2 : lk_seg 7 [(.iconst 1, 1, (0, [], .int (1))), (.istore_n 2, 1, (0, [], .null))] 0 = some 2 := by decide +kernel
theorem lk_s7_2_2 : lk_seg 7 [(.iload_n 2, 1, (0, [], .null)), (.iload_n 1, 1, (0, [], .null))] 2 = some 4 := by decide +kernel
theorem lk_i7_4 : lk_ins 7 4 = some (.if_icmp .gt 69, 3, (73, [], .null)) := lk_eqE_eq (by decide +kernel)
theorem lk_s7_73_1 : lk_seg 7 [(.iconst 1, 1, (0, [], .int (1)))] 73 = some 74 := by decide +kernel
theorem lk_i7_74 : lk_ins 7 74 = some (.ireturn, 1, (0, [], .null)) := lk_eqE_eq (by decide +kernel)
theorem lk_s7_7_1 : lk_seg 7 [(.aload_n 0, 1, (0, [], .null))] 7 = some 8 := by decide +kernel
theorem lk_i7_8 : lk_ins 7 8 = some (.getfield 15, 3, (0, [(1, 0)], .null)) := lk_eqE_eq (by decide +kernel)
theorem lk_s7_11_1 : lk_seg 7 [(.iload_n 1, 1, (0, [], .null))] 11 = some 12 := by decide +kernel
theorem lk_i7_12 : lk_ins 7 12 = some (.iaload, 1, (0, [], .null)) := lk_eqE_eq (by decide +kernel)
theorem lk_s7_13_1 : lk_seg 7 [(.aload_n 0, 1, (0, [], .null))] 13 = some 14 := by decide +kernel
theorem lk_i7_14 : lk_ins 7 14 = some (.getfield 15, 3, (0, [(1, 0)], .null)) := lk_eqE_eq (by decide +kernel)
theorem lk_s7_17_3 : lk_seg 7 [(.iload_n 1, 1, (0, [], .null)), (.iload_n 2, 1, (0, [], .null)), (.isub, 1, (0, [], .null))] 17 = some 20 := by decide +kernel
theorem lk_i7_20 : lk_ins 7 20 = some (.iaload, 1, (0, [], .null)) := lk_eqE_eq (by decide +kernel)
theorem lk_s7_21_3 : lk_seg 7 [(.isub, 1, (0, [], .null)), (.istore_n 3, 1, (0, [], .null)), (.iload_n 3, 1, (0, [], .null))] 21 = some 24 := by decide +kernel
theorem lk_i7_24 : lk_ins 7 24 = some (.ifCond .ne 5, 3, (29, [], .null)) := lk_eqE_eq (by decide +kernel)
theorem lk_s7_29_2 : lk_seg 7 [(.iload_n 2, 1, (0, [], .null)), (.istore 4, 2, (0, [], .null))] 29 = some 32 := by decide +kernel
theorem lk_s7_27_1 : lk_seg 7 [(.iconst 0, 1, (0, [], .int (0)))] 27 = some 28 := by decide +kernel
theorem lk_i7_28 : lk_ins 7 28 = some (.ireturn, 1, (0, [], .null)) := lk_eqE_eq (by decide +kernel)
theorem lk_s7_32_2 : lk_seg 7 [(.iload 4, 2, (0, [], .null)), (.iload_n 1, 1, (0, [], .null))] 32 = some 35 := by decide +kernel
theorem lk_i7_35 : lk_ins 7 35 = some (.if_icmp .ge 32, 3, (67, [], .null)) := lk_eqE_eq (by decide +kernel)
theorem lk_s7_67_2 : lk_seg 7 [(.iinc 2 1, 3, (0, [], .int (1))), (.goto (-68), 3, (2, [], .null))] 67 = some 2 := by decide +kernel
theorem lk_s7_38_1 : lk_seg 7 [(.aload_n 0, 1, (0, [], .null))] 38 = some 39 := by decide +kernel
theorem lk_i7_39 : lk_ins 7 39 = some (.getfield 15, 3, (0, [(1, 0)], .null)) := lk_eqE_eq (by decide +kernel)
theorem lk_s7_42_1 : lk_seg 7 [(.iload 4, 2, (0, [], .null))] 42 = some 44 := by decide +kernel
theorem lk_i7_44 : lk_ins 7 44 = some (.iaload, 1, (0, [], .null)) := lk_eqE_eq (by decide +kernel)
theorem lk_s7_45_1 : lk_seg 7 [(.aload_n 0, 1, (0, [], .null))] 45 = some 46 := by decide +kernel
theorem lk_i7_46 : lk_ins 7 46 = some (.getfield 15, 3, (0, [(1, 0)], .null)) := lk_eqE_eq (by decide +kernel)
theorem lk_s7_49_3 : lk_seg 7 [(.iload 4, 2, (0, [], .null)), (.iload_n 2, 1, (0, [], .null)), (.isub, 1, (0, [], .null))] 49 = some 53 := by decide +kernel
theorem lk_i7_53 : lk_ins 7 53 = some (.iaload, 1, (0, [], .null)) := lk_eqE_eq (by decide +kernel)
theorem lk_s7_54_2 : lk_seg 7 [(.isub, 1, (0, [], .null)), (.iload_n 3, 1, (0, [], .null))] 54 = some 56 := by decide +kernel
theorem lk_i7_56 : lk_ins 7 56 = some (.if_icmp .ne 5, 3, (61, [], .null)) := lk_eqE_eq (by decide +kernel)
theorem lk_s7_61_2 : lk_seg 7 [(.iinc 4 1, 3, (0, [], .int (1))), (.goto (-32), 3, (32, [], .null))] 61 = some 32 := by decide +kernel
theorem lk_s7_59_1 : lk_seg 7 [(.iconst 0, 1, (0, [], .int (0)))] 59 = some 60 := by decide +kernel
theorem lk_i7_60 : lk_ins 7 60 = some (.ireturn, 1, (0, [], .null)) := lk_eqE_eq (by decide +kernel)
set_option maxRecDepth 20000 in
theorem E_ll_isLonelyUpTo {X : lk_X} {d : Nat} {x1 : Int32} {a0 : Nat} {h : lk_H} {Q : Option Value → lk_H → Prop} (H : lk_wp X (d + 1) 7 2 [.ref a0, .int x1, .int 1, .retAddr 0, .retAddr 0] [] h Q) : lk_wx X (d + 1) 7 [.ref a0, .int x1] h Q := by
  refine lk_enter (lo := [.ref a0, .int x1, .retAddr 0, .retAddr 0, .retAddr 0]) lk_M7 rfl (Nat.le_of_ble_eq_true rfl) ?_
  refine lk_wp_seg (lo' := [.ref a0, .int x1, .int 1, .retAddr 0, .retAddr 0]) (st' := []) lk_M7 lk_s7_0_2 rfl ?_
  exact H
set_option maxRecDepth 20000 in
theorem F_ll_isLonelyUpTo_2 {X : lk_X} {d : Nat} {x1 x2 : Int32} {a0 : Nat} {h : lk_H} {Q : Option Value → lk_H → Prop} (H : (x1 < x2 → Q (some (.int 1)) h) ∧ (¬ x1 < x2 → lk_fR h a0 0 [(1, 0)] (fun r1 => lk_ai h r1 x1 (fun r2 => lk_fR h a0 0 [(1, 0)] (fun r3 => lk_ai h r3 (x1 - x2) (fun r4 => (¬ (r2 - r4) = 0 → lk_wp X (d + 1) 7 32 [.ref a0, .int x1, .int x2, .int (r2 - r4), .int x2] [] h Q) ∧ ((r2 - r4) = 0 → Q (some (.int 0)) h))))))) : lk_wp X (d + 1) 7 2 [.ref a0, .int x1, .int x2, .retAddr 0, .retAddr 0] [] h Q := by
  refine lk_wp_seg (lo' := [.ref a0, .int x1, .int x2, .retAddr 0, .retAddr 0]) (st' := [.int x1, .int x2]) lk_M7 lk_s7_2_2 rfl ?_
  refine lk_wp_ic_gt lk_i7_4 lk_M7 H (fun H => ?_) (fun H => ?_)
  · refine lk_wp_seg (lo' := [.ref a0, .int x1, .int x2, .retAddr 0, .retAddr 0]) (st' := [.int 1]) lk_M7 lk_s7_73_1 rfl ?_
    exact lk_wp_ret lk_i7_74 lk_M7 rfl H
  · refine lk_wp_seg (lo' := [.ref a0, .int x1, .int x2, .retAddr 0, .retAddr 0]) (st' := [.ref a0]) lk_M7 lk_s7_7_1 rfl ?_
    refine lk_wp_fR lk_i7_8 lk_M7 H (fun r1 H => ?_)
    refine lk_wp_seg (lo' := [.ref a0, .int x1, .int x2, .retAddr 0, .retAddr 0]) (st' := [.int x1, .ref r1]) lk_M7 lk_s7_11_1 rfl ?_
    refine lk_wp_ai lk_i7_12 lk_M7 H (fun r2 H => ?_)
    refine lk_wp_seg (lo' := [.ref a0, .int x1, .int x2, .retAddr 0, .retAddr 0]) (st' := [.ref a0, .int r2]) lk_M7 lk_s7_13_1 rfl ?_
    refine lk_wp_fR lk_i7_14 lk_M7 H (fun r3 H => ?_)
    refine lk_wp_seg (lo' := [.ref a0, .int x1, .int x2, .retAddr 0, .retAddr 0]) (st' := [.int (x1 - x2), .ref r3, .int r2]) lk_M7 lk_s7_17_3 rfl ?_
    refine lk_wp_ai lk_i7_20 lk_M7 H (fun r4 H => ?_)
    refine lk_wp_seg (lo' := [.ref a0, .int x1, .int x2, .int (r2 - r4), .retAddr 0]) (st' := [.int (r2 - r4)]) lk_M7 lk_s7_21_3 rfl ?_
    refine lk_wp_if_ne lk_i7_24 lk_M7 H (fun H => ?_) (fun H => ?_)
    · refine lk_wp_seg (lo' := [.ref a0, .int x1, .int x2, .int (r2 - r4), .int x2]) (st' := []) lk_M7 lk_s7_29_2 rfl ?_
      exact H
    · refine lk_wp_seg (lo' := [.ref a0, .int x1, .int x2, .int (r2 - r4), .retAddr 0]) (st' := [.int 0]) lk_M7 lk_s7_27_1 rfl ?_
      exact lk_wp_ret lk_i7_28 lk_M7 rfl H
set_option maxRecDepth 20000 in
theorem F_ll_isLonelyUpTo_32 {X : lk_X} {d : Nat} {x1 x2 x3 x4 : Int32} {a0 : Nat} {h : lk_H} {Q : Option Value → lk_H → Prop} (H : (x1 ≤ x4 → lk_wp X (d + 1) 7 2 [.ref a0, .int x1, .int (x2 + 1), .retAddr 0, .retAddr 0] [] h Q) ∧ (¬ x1 ≤ x4 → lk_fR h a0 0 [(1, 0)] (fun r1 => lk_ai h r1 x4 (fun r2 => lk_fR h a0 0 [(1, 0)] (fun r3 => lk_ai h r3 (x4 - x2) (fun r4 => (¬ (r2 - r4) = x3 → lk_wp X (d + 1) 7 32 [.ref a0, .int x1, .int x2, .int x3, .int (x4 + 1)] [] h Q) ∧ ((r2 - r4) = x3 → Q (some (.int 0)) h))))))) : lk_wp X (d + 1) 7 32 [.ref a0, .int x1, .int x2, .int x3, .int x4] [] h Q := by
  refine lk_wp_seg (lo' := [.ref a0, .int x1, .int x2, .int x3, .int x4]) (st' := [.int x1, .int x4]) lk_M7 lk_s7_32_2 rfl ?_
  refine lk_wp_ic_ge lk_i7_35 lk_M7 H (fun H => ?_) (fun H => ?_)
  · refine lk_wp_seg (lo' := [.ref a0, .int x1, .int (x2 + 1), .int x3, .int x4]) (st' := []) lk_M7 lk_s7_67_2 rfl ?_
    exact H.forget (lk_le_s (lk_le_s (lk_le_s (lk_le_d (lk_le_d lk_le_n)))))
  · refine lk_wp_seg (lo' := [.ref a0, .int x1, .int x2, .int x3, .int x4]) (st' := [.ref a0]) lk_M7 lk_s7_38_1 rfl ?_
    refine lk_wp_fR lk_i7_39 lk_M7 H (fun r1 H => ?_)
    refine lk_wp_seg (lo' := [.ref a0, .int x1, .int x2, .int x3, .int x4]) (st' := [.int x4, .ref r1]) lk_M7 lk_s7_42_1 rfl ?_
    refine lk_wp_ai lk_i7_44 lk_M7 H (fun r2 H => ?_)
    refine lk_wp_seg (lo' := [.ref a0, .int x1, .int x2, .int x3, .int x4]) (st' := [.ref a0, .int r2]) lk_M7 lk_s7_45_1 rfl ?_
    refine lk_wp_fR lk_i7_46 lk_M7 H (fun r3 H => ?_)
    refine lk_wp_seg (lo' := [.ref a0, .int x1, .int x2, .int x3, .int x4]) (st' := [.int (x4 - x2), .ref r3, .int r2]) lk_M7 lk_s7_49_3 rfl ?_
    refine lk_wp_ai lk_i7_53 lk_M7 H (fun r4 H => ?_)
    refine lk_wp_seg (lo' := [.ref a0, .int x1, .int x2, .int x3, .int x4]) (st' := [.int x3, .int (r2 - r4)]) lk_M7 lk_s7_54_2 rfl ?_
    refine lk_wp_ic_ne lk_i7_56 lk_M7 H (fun H => ?_) (fun H => ?_)
    · refine lk_wp_seg (lo' := [.ref a0, .int x1, .int x2, .int x3, .int (x4 + 1)]) (st' := []) lk_M7 lk_s7_61_2 rfl ?_
      exact H
    · refine lk_wp_seg (lo' := [.ref a0, .int x1, .int x2, .int x3, .int x4]) (st' := [.int 0]) lk_M7 lk_s7_59_1 rfl ?_
      exact lk_wp_ret lk_i7_60 lk_M7 rfl H
/-! LonelyDots$LonelyList.keep()V -/
theorem lk_M8 : lk_mt[8]? = some (yX1_keep, cX1_keep, 1, ((none))) := rfl
theorem lk_s8_0_1 : lk_seg 8 [(.aload_n 0, 1, (0, [], .null))] 0 = some 1 := by decide +kernel
theorem lk_i8_1 : lk_ins 8 1 = some (.getfield 35, 3, (3, [(1, 0)], .null)) := lk_eqE_eq (by decide +kernel)
theorem lk_s8_4_1 : lk_seg 8 [(.sipush 200, 3, (0, [], .int (200)))] 4 = some 7 := by decide +kernel
theorem lk_i8_7 : lk_ins 8 7 = some (.if_icmp .lt 4, 3, (11, [], .null)) := lk_eqE_eq (by decide +kernel)
theorem lk_s8_11_1 : lk_seg 8 [(.aload_n 0, 1, (0, [], .null))] 11 = some 12 := by decide +kernel
theorem lk_i8_12 : lk_ins 8 12 = some (.getfield 11, 3, (2, [(1, 0)], .null)) := lk_eqE_eq (by decide +kernel)
theorem lk_s8_15_1 : lk_seg 8 [(.aload_n 0, 1, (0, [], .null))] 15 = some 16 := by decide +kernel
theorem lk_i8_16 : lk_ins 8 16 = some (.getfield 35, 3, (3, [(1, 0)], .null)) := lk_eqE_eq (by decide +kernel)
theorem lk_s8_19_1 : lk_seg 8 [(.aload_n 0, 1, (0, [], .null))] 19 = some 20 := by decide +kernel
theorem lk_i8_20 : lk_ins 8 20 = some (.getfield 15, 3, (0, [(1, 0)], .null)) := lk_eqE_eq (by decide +kernel)
theorem lk_i8_23 : lk_ins 8 23 = some (.invokestatic 39, 3, (0, [(0, 10)], .ref 7)) := lk_eqE_eq (by decide +kernel)
theorem lk_i8_26 : lk_ins 8 26 = some (.iastore, 1, (0, [], .null)) := lk_eqE_eq (by decide +kernel)
theorem lk_s8_27_2 : lk_seg 8 [(.aload_n 0, 1, (0, [], .null)), (.dup, 1, (0, [], .null))] 27 = some 29 := by decide +kernel
theorem lk_i8_29 : lk_ins 8 29 = some (.getfield 35, 3, (3, [(1, 0)], .null)) := lk_eqE_eq (by decide +kernel)
theorem lk_s8_32_2 : lk_seg 8 [(.iconst 1, 1, (0, [], .int (1))), (.iadd, 1, (0, [], .null))] 32 = some 34 := by decide +kernel
theorem lk_i8_34 : lk_ins 8 34 = some (.putfield 35, 3, (3, [(1, 0)], .null)) := lk_eqE_eq (by decide +kernel)
theorem lk_s8_37_1 : lk_seg 8 [(.aload_n 0, 1, (0, [], .null))] 37 = some 38 := by decide +kernel
theorem lk_i8_38 : lk_ins 8 38 = some (.invokevirtual 43, 3, (1, [(1, 9)], .ref 8)) := lk_eqE_eq (by decide +kernel)
theorem lk_i8_41 : lk_ins 8 41 = some (.ifCond .eq 13, 3, (54, [], .null)) := lk_eqE_eq (by decide +kernel)
theorem lk_i8_54 : lk_ins 8 54 = some (.return_, 1, (0, [], .null)) := lk_eqE_eq (by decide +kernel)
theorem lk_s8_44_2 : lk_seg 8 [(.aload_n 0, 1, (0, [], .null)), (.dup, 1, (0, [], .null))] 44 = some 46 := by decide +kernel
theorem lk_i8_46 : lk_ins 8 46 = some (.getfield 47, 3, (4, [(1, 0)], .null)) := lk_eqE_eq (by decide +kernel)
theorem lk_s8_49_2 : lk_seg 8 [(.iconst 1, 1, (0, [], .int (1))), (.iadd, 1, (0, [], .null))] 49 = some 51 := by decide +kernel
theorem lk_i8_51 : lk_ins 8 51 = some (.putfield 47, 3, (4, [(1, 0)], .null)) := lk_eqE_eq (by decide +kernel)
theorem lk_i8_10 : lk_ins 8 10 = some (.return_, 1, (0, [], .null)) := lk_eqE_eq (by decide +kernel)
set_option maxRecDepth 20000 in
theorem E_ll_keep {X : lk_X} {d : Nat} {a0 : Nat} {h : lk_H} {Q : Option Value → lk_H → Prop} (H : lk_fI h a0 3 [(1, 0)] (fun r1 => (r1 < 200 → lk_fR h a0 2 [(1, 0)] (fun r2 => lk_fI h a0 3 [(1, 0)] (fun r3 => lk_fR h a0 0 [(1, 0)] (fun r4 => lk_wxi X d 10 [.ref r4] h (fun r6 h5 => lk_as h5 r2 r3 r6 (fun h7 => lk_fI h7 a0 3 [(1, 0)] (fun r8 => lk_pf h7 a0 3 [(1, 0)] (.int (r8 + 1)) (fun h9 => lk_vc h9 a0 [(1, 9)] (fun k14 => lk_wxi X d k14 [.ref a0] h9 (fun r11 h10 => (r11 = 0 → Q none h10) ∧ (¬ r11 = 0 → lk_fI h10 a0 4 [(1, 0)] (fun r12 => lk_pf h10 a0 4 [(1, 0)] (.int (r12 + 1)) (fun h13 => Q none h13))))))))))))) ∧ (¬ r1 < 200 → Q none h))) : lk_wx X (d + 1) 8 [.ref a0] h Q := by
  refine lk_enter (lo := [.ref a0]) lk_M8 rfl (Nat.le_of_ble_eq_true rfl) ?_
  refine lk_wp_seg (lo' := [.ref a0]) (st' := [.ref a0]) lk_M8 lk_s8_0_1 rfl ?_
  refine lk_wp_fI lk_i8_1 lk_M8 H (fun r1 H => ?_)
  refine lk_wp_seg (lo' := [.ref a0]) (st' := [.int 200, .int r1]) lk_M8 lk_s8_4_1 rfl ?_
  refine lk_wp_ic_lt lk_i8_7 lk_M8 H (fun H => ?_) (fun H => ?_)
  · refine lk_wp_seg (lo' := [.ref a0]) (st' := [.ref a0]) lk_M8 lk_s8_11_1 rfl ?_
    refine lk_wp_fR lk_i8_12 lk_M8 H (fun r2 H => ?_)
    refine lk_wp_seg (lo' := [.ref a0]) (st' := [.ref a0, .ref r2]) lk_M8 lk_s8_15_1 rfl ?_
    refine lk_wp_fI lk_i8_16 lk_M8 H (fun r3 H => ?_)
    refine lk_wp_seg (lo' := [.ref a0]) (st' := [.ref a0, .int r3, .ref r2]) lk_M8 lk_s8_19_1 rfl ?_
    refine lk_wp_fR lk_i8_20 lk_M8 H (fun r4 H => ?_)
    refine lk_wp_cs (as := [.ref r4]) (r := [.int r3, .ref r2]) lk_i8_23 lk_M8 rfl rfl rfl rfl (Nat.le_of_ble_eq_true rfl) (lk_gi H (fun r6 h5 H => ?_))
    refine lk_wp_as lk_i8_26 lk_M8 H (fun h7 H => ?_)
    refine lk_wp_seg (lo' := [.ref a0]) (st' := [.ref a0, .ref a0]) lk_M8 lk_s8_27_2 rfl ?_
    refine lk_wp_fI lk_i8_29 lk_M8 H (fun r8 H => ?_)
    refine lk_wp_seg (lo' := [.ref a0]) (st' := [.int (r8 + 1), .ref a0]) lk_M8 lk_s8_32_2 rfl ?_
    refine lk_wp_pf lk_i8_34 lk_M8 H (fun h9 H => ?_)
    refine lk_wp_seg (lo' := [.ref a0]) (st' := [.ref a0]) lk_M8 lk_s8_37_1 rfl ?_
    refine lk_wp_cv (as := []) (r := []) (a := a0) lk_i8_38 lk_M8 rfl rfl rfl (Nat.le_of_ble_eq_true rfl) H (fun k14 H => lk_gi H (fun r11 h10 H => ?_))
    refine lk_wp_if_eq lk_i8_41 lk_M8 H (fun H => ?_) (fun H => ?_)
    · exact lk_wp_ret lk_i8_54 lk_M8 rfl H
    · refine lk_wp_seg (lo' := [.ref a0]) (st' := [.ref a0, .ref a0]) lk_M8 lk_s8_44_2 rfl ?_
      refine lk_wp_fI lk_i8_46 lk_M8 H (fun r12 H => ?_)
      refine lk_wp_seg (lo' := [.ref a0]) (st' := [.int (r12 + 1), .ref a0]) lk_M8 lk_s8_49_2 rfl ?_
      refine lk_wp_pf lk_i8_51 lk_M8 H (fun h13 H => ?_)
      exact lk_wp_ret lk_i8_54 lk_M8 rfl H
  · exact lk_wp_ret lk_i8_10 lk_M8 rfl H
/-! LonelyDots$LonelyList.isFirstOfItsTurns()Z -/
theorem lk_M9 : lk_mt[9]? = some (yX1_isFirstOfItsTurns, cX1_isFirstOfItsTurns, 3, ((some FieldType.boolean))) := rfl
theorem lk_s9_0_1 : lk_seg 9 [(.aload_n 0, 1, (0, [], .null))] 0 = some 1 := by decide +kernel
theorem lk_i9_1 : lk_ins 9 1 = some (.getfield 15, 3, (0, [(1, 0)], .null)) := lk_eqE_eq (by decide +kernel)
theorem lk_i9_4 : lk_ins 9 4 = some (.invokestatic 39, 3, (0, [(0, 10)], .ref 7)) := lk_eqE_eq (by decide +kernel)
theorem lk_s9_7_3 : lk_seg 9 [(.istore_n 1, 1, (0, [], .null)), (.iconst 1, 1, (0, [], .int (1))), (.istore_n 2, 1, (0, [], .null))] 7 = some 10 := by decide +kernel
theorem lk_s9_10_2 : lk_seg 9 [(.iload_n 2, 1, (0, [], .null)), (.bipush 8, 2, (0, [], .int (8)))] 10 = some 13 := by decide +kernel
theorem lk_i9_13 : lk_ins 9 13 = some (.if_icmp .ge 34, 3, (47, [], .null)) := lk_eqE_eq (by decide +kernel)
theorem lk_s9_47_1 : lk_seg 9 [(.iconst 1, 1, (0, [], .int (1)))] 47 = some 48 := by decide +kernel
theorem lk_i9_48 : lk_ins 9 48 = some (.ireturn, 1, (0, [], .null)) := lk_eqE_eq (by decide +kernel)
theorem lk_s9_16_1 : lk_seg 9 [(.aload_n 0, 1, (0, [], .null))] 16 = some 17 := by decide +kernel
theorem lk_i9_17 : lk_ins 9 17 = some (.getfield 18, 3, (1, [(1, 0)], .null)) := lk_eqE_eq (by decide +kernel)
theorem lk_s9_20_1 : lk_seg 9 [(.aload_n 0, 1, (0, [], .null))] 20 = some 21 := by decide +kernel
theorem lk_i9_21 : lk_ins 9 21 = some (.getfield 15, 3, (0, [(1, 0)], .null)) := lk_eqE_eq (by decide +kernel)
theorem lk_s9_24_1 : lk_seg 9 [(.iload_n 2, 1, (0, [], .null))] 24 = some 25 := by decide +kernel
theorem lk_i9_25 : lk_ins 9 25 = some (.invokestatic 50, 3, (0, [(0, 30)], .ref 9)) := lk_eqE_eq (by decide +kernel)
theorem lk_s9_28_1 : lk_seg 9 [(.aload_n 0, 1, (0, [], .null))] 28 = some 29 := by decide +kernel
theorem lk_i9_29 : lk_ins 9 29 = some (.getfield 18, 3, (1, [(1, 0)], .null)) := lk_eqE_eq (by decide +kernel)
theorem lk_i9_32 : lk_ins 9 32 = some (.invokestatic 39, 3, (0, [(0, 10)], .ref 7)) := lk_eqE_eq (by decide +kernel)
theorem lk_s9_35_1 : lk_seg 9 [(.iload_n 1, 1, (0, [], .null))] 35 = some 36 := by decide +kernel
theorem lk_i9_36 : lk_ins 9 36 = some (.if_icmp .ge 5, 3, (41, [], .null)) := lk_eqE_eq (by decide +kernel)
theorem lk_s9_41_2 : lk_seg 9 [(.iinc 2 1, 3, (0, [], .int (1))), (.goto (-34), 3, (10, [], .null))] 41 = some 10 := by decide +kernel
theorem lk_s9_39_1 : lk_seg 9 [(.iconst 0, 1, (0, [], .int (0)))] 39 = some 40 := by decide +kernel
theorem lk_i9_40 : lk_ins 9 40 = some (.ireturn, 1, (0, [], .null)) := lk_eqE_eq (by decide +kernel)
set_option maxRecDepth 20000 in
theorem E_ll_isFirstOfItsTurns {X : lk_X} {d : Nat} {a0 : Nat} {h : lk_H} {Q : Option Value → lk_H → Prop} (H : lk_fR h a0 0 [(1, 0)] (fun r1 => lk_wxi X d 10 [.ref r1] h (fun r3 h2 => lk_wp X (d + 1) 9 10 [.ref a0, .int r3, .int 1] [] h2 Q))) : lk_wx X (d + 1) 9 [.ref a0] h Q := by
  refine lk_enter (lo := [.ref a0, .retAddr 0, .retAddr 0]) lk_M9 rfl (Nat.le_of_ble_eq_true rfl) ?_
  refine lk_wp_seg (lo' := [.ref a0, .retAddr 0, .retAddr 0]) (st' := [.ref a0]) lk_M9 lk_s9_0_1 rfl ?_
  refine lk_wp_fR lk_i9_1 lk_M9 H (fun r1 H => ?_)
  refine lk_wp_cs (as := [.ref r1]) (r := []) lk_i9_4 lk_M9 rfl rfl rfl rfl (Nat.le_of_ble_eq_true rfl) (lk_gi H (fun r3 h2 H => ?_))
  refine lk_wp_seg (lo' := [.ref a0, .int r3, .int 1]) (st' := []) lk_M9 lk_s9_7_3 rfl ?_
  exact H
set_option maxRecDepth 20000 in
theorem F_ll_isFirstOfItsTurns_10 {X : lk_X} {d : Nat} {x1 x2 : Int32} {a0 : Nat} {h : lk_H} {Q : Option Value → lk_H → Prop} (H : (8 ≤ x2 → Q (some (.int 1)) h) ∧ (¬ 8 ≤ x2 → lk_fR h a0 1 [(1, 0)] (fun r1 => lk_fR h a0 0 [(1, 0)] (fun r2 => lk_wxv X d 30 [.ref r1, .ref r2, .int x2] h (fun h3 => lk_fR h3 a0 1 [(1, 0)] (fun r4 => lk_wxi X d 10 [.ref r4] h3 (fun r6 h5 => (x1 ≤ r6 → lk_wp X (d + 1) 9 10 [.ref a0, .int x1, .int (x2 + 1)] [] h5 Q) ∧ (¬ x1 ≤ r6 → Q (some (.int 0)) h5)))))))) : lk_wp X (d + 1) 9 10 [.ref a0, .int x1, .int x2] [] h Q := by
  refine lk_wp_seg (lo' := [.ref a0, .int x1, .int x2]) (st' := [.int 8, .int x2]) lk_M9 lk_s9_10_2 rfl ?_
  refine lk_wp_ic_ge lk_i9_13 lk_M9 H (fun H => ?_) (fun H => ?_)
  · refine lk_wp_seg (lo' := [.ref a0, .int x1, .int x2]) (st' := [.int 1]) lk_M9 lk_s9_47_1 rfl ?_
    exact lk_wp_ret lk_i9_48 lk_M9 rfl H
  · refine lk_wp_seg (lo' := [.ref a0, .int x1, .int x2]) (st' := [.ref a0]) lk_M9 lk_s9_16_1 rfl ?_
    refine lk_wp_fR lk_i9_17 lk_M9 H (fun r1 H => ?_)
    refine lk_wp_seg (lo' := [.ref a0, .int x1, .int x2]) (st' := [.ref a0, .ref r1]) lk_M9 lk_s9_20_1 rfl ?_
    refine lk_wp_fR lk_i9_21 lk_M9 H (fun r2 H => ?_)
    refine lk_wp_seg (lo' := [.ref a0, .int x1, .int x2]) (st' := [.int x2, .ref r2, .ref r1]) lk_M9 lk_s9_24_1 rfl ?_
    refine lk_wp_cs (as := [.ref r1, .ref r2, .int x2]) (r := []) lk_i9_25 lk_M9 rfl rfl rfl rfl (Nat.le_of_ble_eq_true rfl) (lk_gv H (fun h3 H => ?_))
    refine lk_wp_seg (lo' := [.ref a0, .int x1, .int x2]) (st' := [.ref a0]) lk_M9 lk_s9_28_1 rfl ?_
    refine lk_wp_fR lk_i9_29 lk_M9 H (fun r4 H => ?_)
    refine lk_wp_cs (as := [.ref r4]) (r := []) lk_i9_32 lk_M9 rfl rfl rfl rfl (Nat.le_of_ble_eq_true rfl) (lk_gi H (fun r6 h5 H => ?_))
    refine lk_wp_seg (lo' := [.ref a0, .int x1, .int x2]) (st' := [.int x1, .int r6]) lk_M9 lk_s9_35_1 rfl ?_
    refine lk_wp_ic_ge lk_i9_36 lk_M9 H (fun H => ?_) (fun H => ?_)
    · refine lk_wp_seg (lo' := [.ref a0, .int x1, .int (x2 + 1)]) (st' := []) lk_M9 lk_s9_41_2 rfl ?_
      exact H
    · refine lk_wp_seg (lo' := [.ref a0, .int x1, .int x2]) (st' := [.int 0]) lk_M9 lk_s9_39_1 rfl ?_
      exact lk_wp_ret lk_i9_40 lk_M9 rfl H
/-! LonelyDots$LonelyList.code([I)I -/
theorem lk_M10 : lk_mt[10]? = some (yX1_code, cX1_code, 6, ((some FieldType.int))) := rfl
theorem lk_s10_0_5 : lk_seg 10 [(.iconst 0, 1, (0, [], .int (0))), (.istore_n 1, 1, (0, [], .null)), (.aload_n 0, 1, (0, [], .null)), (.astore_n 2, 1, (0, [], .null)), (.aload_n 2, 1, (0, [], .null))] 0 = some 5 := by decide +kernel
theorem lk_i10_5 : lk_ins 10 5 = some (.arraylength, 1, (0, [], .null)) := lk_eqE_eq (by decide +kernel)
theorem lk_s10_6_3 : lk_seg 10 [(.istore_n 3, 1, (0, [], .null)), (.iconst 0, 1, (0, [], .int (0))), (.istore 4, 2, (0, [], .null))] 6 = some 10 := by decide +kernel
theorem lk_s10_10_2 : lk_seg 10 [(.iload 4, 2, (0, [], .null)), (.iload_n 3, 1, (0, [], .null))] 10 = some 13 := by decide +kernel
theorem lk_i10_13 : lk_ins 10 13 = some (.if_icmp .ge 22, 3, (35, [], .null)) := lk_eqE_eq (by decide +kernel)
theorem lk_s10_35_1 : lk_seg 10 [(.iload_n 1, 1, (0, [], .null))] 35 = some 36 := by decide +kernel
theorem lk_i10_36 : lk_ins 10 36 = some (.ireturn, 1, (0, [], .null)) := lk_eqE_eq (by decide +kernel)
theorem lk_s10_16_2 : lk_seg 10 [(.aload_n 2, 1, (0, [], .null)), (.iload 4, 2, (0, [], .null))] 16 = some 19 := by decide +kernel
theorem lk_i10_19 : lk_ins 10 19 = some (.iaload, 1, (0, [], .null)) := lk_eqE_eq (by decide +kernel)
theorem lk_s10_20_9 : lk_seg 10 [(.istore 5, 2, (0, [], .null)), (.iload_n 1, 1, (0, [], .null)), (.iconst 3, 1, (0, [], .int (3))), (.ishl, 1, (0, [], .null)), (.iload 5, 2, (0, [], .null)), (.ior, 1, (0, [], .null)), (.istore_n 1, 1, (0, [], .null)), (.iinc 4 1, 3, (0, [], .int (1))), (.goto (-22), 3, (10, [], .null))] 20 = some 10 := by decide +kernel
set_option maxRecDepth 20000 in
theorem E_ll_code {X : lk_X} {d : Nat} {a0 : Nat} {h : lk_H} {Q : Option Value → lk_H → Prop} (H : lk_al2 h a0 (fun r1 => lk_wp X (d + 1) 10 10 [.retAddr 0, .int 0, .ref a0, .int r1, .int 0, .retAddr 0] [] h Q)) : lk_wx X (d + 1) 10 [.ref a0] h Q := by
  refine lk_enter (lo := [.ref a0, .retAddr 0, .retAddr 0, .retAddr 0, .retAddr 0, .retAddr 0]) lk_M10 rfl (Nat.le_of_ble_eq_true rfl) ?_
  refine lk_wp_seg (lo' := [.ref a0, .int 0, .ref a0, .retAddr 0, .retAddr 0, .retAddr 0]) (st' := [.ref a0]) lk_M10 lk_s10_0_5 rfl ?_
  refine lk_wp_al lk_i10_5 lk_M10 H (fun r1 H => ?_)
  refine lk_wp_seg (lo' := [.ref a0, .int 0, .ref a0, .int r1, .int 0, .retAddr 0]) (st' := []) lk_M10 lk_s10_6_3 rfl ?_
  exact H.forget (lk_le_d (lk_le_s (lk_le_s (lk_le_s (lk_le_s (lk_le_s lk_le_n))))))
set_option maxRecDepth 20000 in
theorem F_ll_code_10 {X : lk_X} {d : Nat} {x1 x3 x4 : Int32} {a2 : Nat} {h : lk_H} {Q : Option Value → lk_H → Prop} (H : (x3 ≤ x4 → Q (some (.int x1)) h) ∧ (¬ x3 ≤ x4 → lk_ai h a2 x4 (fun r1 => lk_wp X (d + 1) 10 10 [.retAddr 0, .int ((x1 <<< (3 &&& 31)) ||| r1), .ref a2, .int x3, .int (x4 + 1), .retAddr 0] [] h Q))) : lk_wp X (d + 1) 10 10 [.retAddr 0, .int x1, .ref a2, .int x3, .int x4, .retAddr 0] [] h Q := by
  refine lk_wp_seg (lo' := [.retAddr 0, .int x1, .ref a2, .int x3, .int x4, .retAddr 0]) (st' := [.int x3, .int x4]) lk_M10 lk_s10_10_2 rfl ?_
  refine lk_wp_ic_ge lk_i10_13 lk_M10 H (fun H => ?_) (fun H => ?_)
  · refine lk_wp_seg (lo' := [.retAddr 0, .int x1, .ref a2, .int x3, .int x4, .retAddr 0]) (st' := [.int x1]) lk_M10 lk_s10_35_1 rfl ?_
    exact lk_wp_ret lk_i10_36 lk_M10 rfl H
  · refine lk_wp_seg (lo' := [.retAddr 0, .int x1, .ref a2, .int x3, .int x4, .retAddr 0]) (st' := [.int x4, .ref a2]) lk_M10 lk_s10_16_2 rfl ?_
    refine lk_wp_ai lk_i10_19 lk_M10 H (fun r1 H => ?_)
    refine lk_wp_seg (lo' := [.retAddr 0, .int ((x1 <<< (3 &&& 31)) ||| r1), .ref a2, .int x3, .int (x4 + 1), .int r1]) (st' := []) lk_M10 lk_s10_20_9 rfl ?_
    exact H.forget (lk_le_s (lk_le_s (lk_le_s (lk_le_s (lk_le_s (lk_le_d lk_le_n))))))
/-! LonelyDots$Marks.<init>([I)V -/
theorem lk_M11 : lk_mt[11]? = some (yX2_init, cX2_init, 2, ((none))) := rfl
theorem lk_s11_0_2 : lk_seg 11 [(.aload_n 0, 1, (0, [], .null)), (.aload_n 1, 1, (0, [], .null))] 0 = some 2 := by decide +kernel
theorem lk_i11_2 : lk_ins 11 2 = some (.invokespecial 3, 3, (3, [(0, 55)], .ref 10)) := lk_eqE_eq (by decide +kernel)
theorem lk_i11_5 : lk_ins 11 5 = some (.return_, 1, (0, [], .null)) := lk_eqE_eq (by decide +kernel)
set_option maxRecDepth 20000 in
theorem E_k_init {X : lk_X} {d : Nat} {a0 a1 : Nat} {h : lk_H} {Q : Option Value → lk_H → Prop} (H : lk_ob h a0 (lk_wxv X d 55 [.ref a0, .ref a1] h (fun h1 => Q none h1))) : lk_wx X (d + 1) 11 [.ref a0, .ref a1] h Q := by
  refine lk_enter (lo := [.ref a0, .ref a1]) lk_M11 rfl (Nat.le_of_ble_eq_true rfl) ?_
  refine lk_wp_seg (lo' := [.ref a0, .ref a1]) (st' := [.ref a1, .ref a0]) lk_M11 lk_s11_0_2 rfl ?_
  refine lk_wp_cp (as := [.ref a1]) (r := []) (a := a0) lk_i11_2 lk_M11 rfl rfl rfl rfl (Nat.le_of_ble_eq_true rfl) H (fun H => lk_gv H (fun h1 H => ?_))
  exact lk_wp_ret lk_i11_5 lk_M11 rfl H
/-! LonelyDots$Marks.told([I)LLonelyDots$Marks; -/
theorem lk_M12 : lk_mt[12]? = some (yX2_told, cX2_told, 2, ((some (FieldType.object "LonelyDots$Marks")))) := rfl
theorem lk_i12_0 : lk_ins 12 0 = some (.new 9, 3, (2, [], .null)) := lk_eqE_eq (by decide +kernel)
theorem lk_s12_3_2 : lk_seg 12 [(.dup, 1, (0, [], .null)), (.aload_n 0, 1, (0, [], .null))] 3 = some 5 := by decide +kernel
theorem lk_i12_5 : lk_ins 12 5 = some (.invokespecial 11, 3, (3, [(0, 11)], .ref 11)) := lk_eqE_eq (by decide +kernel)
theorem lk_s12_8_3 : lk_seg 12 [(.astore_n 1, 1, (0, [], .null)), (.aload_n 1, 1, (0, [], .null)), (.iconst 0, 1, (0, [], .int (0)))] 8 = some 11 := by decide +kernel
theorem lk_i12_11 : lk_ins 12 11 = some (.invokevirtual 12, 3, (2, [(2, 58), (5, 58), (6, 58)], .ref 12)) := lk_eqE_eq (by decide +kernel)
theorem lk_s12_14_1 : lk_seg 12 [(.ldc 16, 2, (0, [], .int (-1000000)))] 14 = some 16 := by decide +kernel
theorem lk_i12_16 : lk_ins 12 16 = some (.if_icmp .eq 5, 3, (21, [], .null)) := lk_eqE_eq (by decide +kernel)
theorem lk_s12_21_1 : lk_seg 12 [(.aload_n 1, 1, (0, [], .null))] 21 = some 22 := by decide +kernel
theorem lk_i12_22 : lk_ins 12 22 = some (.invokevirtual 17, 3, (2, [(2, 14)], .ref 13)) := lk_eqE_eq (by decide +kernel)
theorem lk_i12_25 : lk_ins 12 25 = some (.ifCond .eq 14, 3, (39, [], .null)) := lk_eqE_eq (by decide +kernel)
theorem lk_i12_39 : lk_ins 12 39 = some (.new 24, 3, (6, [], .null)) := lk_eqE_eq (by decide +kernel)
theorem lk_s12_42_2 : lk_seg 12 [(.dup, 1, (0, [], .null)), (.aload_n 0, 1, (0, [], .null))] 42 = some 44 := by decide +kernel
theorem lk_i12_44 : lk_ins 12 44 = some (.invokespecial 26, 3, (3, [(0, 42)], .ref 15)) := lk_eqE_eq (by decide +kernel)
theorem lk_i12_47 : lk_ins 12 47 = some (.areturn, 1, (0, [], .null)) := lk_eqE_eq (by decide +kernel)
theorem lk_i12_28 : lk_ins 12 28 = some (.new 21, 3, (5, [], .null)) := lk_eqE_eq (by decide +kernel)
theorem lk_s12_31_2 : lk_seg 12 [(.dup, 1, (0, [], .null)), (.aload_n 0, 1, (0, [], .null))] 31 = some 33 := by decide +kernel
theorem lk_i12_33 : lk_ins 12 33 = some (.invokespecial 23, 3, (3, [(0, 39)], .ref 14)) := lk_eqE_eq (by decide +kernel)
theorem lk_s12_36_1 : lk_seg 12 [(.goto 11, 3, (47, [], .null))] 36 = some 47 := by decide +kernel
theorem lk_s12_19_1 : lk_seg 12 [(.aload_n 1, 1, (0, [], .null))] 19 = some 20 := by decide +kernel
theorem lk_i12_20 : lk_ins 12 20 = some (.areturn, 1, (0, [], .null)) := lk_eqE_eq (by decide +kernel)
set_option maxRecDepth 20000 in
theorem E_k_told {X : lk_X} {d : Nat} {a0 : Nat} {h : lk_H} {Q : Option Value → lk_H → Prop} (H : lk_ob ((h ++ [.inr (2, [.null])])) h.length (lk_wxv X d 11 [.ref (h.length), .ref a0] ((h ++ [.inr (2, [.null])])) (fun h1 => lk_vc h1 h.length [(2, 58), (5, 58), (6, 58)] (fun k9 => lk_wxi X d k9 [.ref (h.length), .int 0] h1 (fun r3 h2 => (r3 = (-1000000) → lk_vc h2 h.length [(2, 14)] (fun k8 => lk_wxi X d k8 [.ref (h.length)] h2 (fun r5 h4 => (r5 = 0 → lk_ob ((h4 ++ [.inr (6, [.null])])) h4.length (lk_wxv X d 42 [.ref (h4.length), .ref a0] ((h4 ++ [.inr (6, [.null])])) (fun h6 => Q (some (.ref (h4.length))) h6))) ∧ (¬ r5 = 0 → lk_ob ((h4 ++ [.inr (5, [.null])])) h4.length (lk_wxv X d 39 [.ref (h4.length), .ref a0] ((h4 ++ [.inr (5, [.null])])) (fun h7 => Q (some (.ref (h4.length))) h7)))))) ∧ (¬ r3 = (-1000000) → Q (some (.ref (h.length))) h2)))))) : lk_wx X (d + 1) 12 [.ref a0] h Q := by
  refine lk_enter (lo := [.ref a0, .retAddr 0]) lk_M12 rfl (Nat.le_of_ble_eq_true rfl) ?_
  refine lk_wp_new lk_i12_0 lk_M12 rfl ?_
  refine lk_wp_seg (lo' := [.ref a0, .retAddr 0]) (st' := [.ref a0, .ref (h.length), .ref (h.length)]) lk_M12 lk_s12_3_2 rfl ?_
  refine lk_wp_cp (as := [.ref a0]) (r := [.ref (h.length)]) (a := h.length) lk_i12_5 lk_M12 rfl rfl rfl rfl (Nat.le_of_ble_eq_true rfl) H (fun H => lk_gv H (fun h1 H => ?_))
  refine lk_wp_seg (lo' := [.ref a0, .ref (h.length)]) (st' := [.int 0, .ref (h.length)]) lk_M12 lk_s12_8_3 rfl ?_
  refine lk_wp_cv (as := [.int 0]) (r := []) (a := h.length) lk_i12_11 lk_M12 rfl rfl rfl (Nat.le_of_ble_eq_true rfl) H (fun k9 H => lk_gi H (fun r3 h2 H => ?_))
  refine lk_wp_seg (lo' := [.ref a0, .ref (h.length)]) (st' := [.int ((-1000000)), .int r3]) lk_M12 lk_s12_14_1 rfl ?_
  refine lk_wp_ic_eq lk_i12_16 lk_M12 H (fun H => ?_) (fun H => ?_)
  · refine lk_wp_seg (lo' := [.ref a0, .ref (h.length)]) (st' := [.ref (h.length)]) lk_M12 lk_s12_21_1 rfl ?_
    refine lk_wp_cv (as := []) (r := []) (a := h.length) lk_i12_22 lk_M12 rfl rfl rfl (Nat.le_of_ble_eq_true rfl) H (fun k8 H => lk_gi H (fun r5 h4 H => ?_))
    refine lk_wp_if_eq lk_i12_25 lk_M12 H (fun H => ?_) (fun H => ?_)
    · refine lk_wp_new lk_i12_39 lk_M12 rfl ?_
      refine lk_wp_seg (lo' := [.ref a0, .ref (h.length)]) (st' := [.ref a0, .ref (h4.length), .ref (h4.length)]) lk_M12 lk_s12_42_2 rfl ?_
      refine lk_wp_cp (as := [.ref a0]) (r := [.ref (h4.length)]) (a := h4.length) lk_i12_44 lk_M12 rfl rfl rfl rfl (Nat.le_of_ble_eq_true rfl) H (fun H => lk_gv H (fun h6 H => ?_))
      exact lk_wp_ret lk_i12_47 lk_M12 rfl H
    · refine lk_wp_new lk_i12_28 lk_M12 rfl ?_
      refine lk_wp_seg (lo' := [.ref a0, .ref (h.length)]) (st' := [.ref a0, .ref (h4.length), .ref (h4.length)]) lk_M12 lk_s12_31_2 rfl ?_
      refine lk_wp_cp (as := [.ref a0]) (r := [.ref (h4.length)]) (a := h4.length) lk_i12_33 lk_M12 rfl rfl rfl rfl (Nat.le_of_ble_eq_true rfl) H (fun H => lk_gv H (fun h7 H => ?_))
      refine lk_wp_seg (lo' := [.ref a0, .ref (h.length)]) (st' := [.ref (h4.length)]) lk_M12 lk_s12_36_1 rfl ?_
      exact lk_wp_ret lk_i12_47 lk_M12 rfl H
  · refine lk_wp_seg (lo' := [.ref a0, .ref (h.length)]) (st' := [.ref (h.length)]) lk_M12 lk_s12_19_1 rfl ?_
    exact lk_wp_ret lk_i12_20 lk_M12 rfl H
/-! LonelyDots$Marks.rise([I)Z -/
theorem lk_M13 : lk_mt[13]? = some (yX2_rise, cX2_rise, 6, ((some FieldType.boolean))) := rfl
theorem lk_s13_0_5 : lk_seg 13 [(.iconst (-1), 1, (0, [], .int (-1))), (.istore_n 1, 1, (0, [], .null)), (.aload_n 0, 1, (0, [], .null)), (.astore_n 2, 1, (0, [], .null)), (.aload_n 2, 1, (0, [], .null))] 0 = some 5 := by decide +kernel
theorem lk_i13_5 : lk_ins 13 5 = some (.arraylength, 1, (0, [], .null)) := lk_eqE_eq (by decide +kernel)
theorem lk_s13_6_3 : lk_seg 13 [(.istore_n 3, 1, (0, [], .null)), (.iconst 0, 1, (0, [], .int (0))), (.istore 4, 2, (0, [], .null))] 6 = some 10 := by decide +kernel
theorem lk_s13_10_2 : lk_seg 13 [(.iload 4, 2, (0, [], .null)), (.iload_n 3, 1, (0, [], .null))] 10 = some 13 := by decide +kernel
theorem lk_i13_13 : lk_ins 13 13 = some (.if_icmp .ge 34, 3, (47, [], .null)) := lk_eqE_eq (by decide +kernel)
theorem lk_s13_47_1 : lk_seg 13 [(.iconst 1, 1, (0, [], .int (1)))] 47 = some 48 := by decide +kernel
theorem lk_i13_48 : lk_ins 13 48 = some (.ireturn, 1, (0, [], .null)) := lk_eqE_eq (by decide +kernel)
theorem lk_s13_16_2 : lk_seg 13 [(.aload_n 2, 1, (0, [], .null)), (.iload 4, 2, (0, [], .null))] 16 = some 19 := by decide +kernel
theorem lk_i13_19 : lk_ins 13 19 = some (.iaload, 1, (0, [], .null)) := lk_eqE_eq (by decide +kernel)
theorem lk_s13_20_3 : lk_seg 13 [(.istore 5, 2, (0, [], .null)), (.iload 5, 2, (0, [], .null)), (.iload_n 1, 1, (0, [], .null))] 20 = some 25 := by decide +kernel
theorem lk_i13_25 : lk_ins 13 25 = some (.if_icmp .le 11, 3, (36, [], .null)) := lk_eqE_eq (by decide +kernel)
theorem lk_s13_36_1 : lk_seg 13 [(.iconst 0, 1, (0, [], .int (0)))] 36 = some 37 := by decide +kernel
theorem lk_i13_37 : lk_ins 13 37 = some (.ireturn, 1, (0, [], .null)) := lk_eqE_eq (by decide +kernel)
theorem lk_s13_28_2 : lk_seg 13 [(.iload 5, 2, (0, [], .null)), (.sipush 200, 3, (0, [], .int (200)))] 28 = some 33 := by decide +kernel
theorem lk_i13_33 : lk_ins 13 33 = some (.if_icmp .le 5, 3, (38, [], .null)) := lk_eqE_eq (by decide +kernel)
theorem lk_s13_38_4 : lk_seg 13 [(.iload 5, 2, (0, [], .null)), (.istore_n 1, 1, (0, [], .null)), (.iinc 4 1, 3, (0, [], .int (1))), (.goto (-34), 3, (10, [], .null))] 38 = some 10 := by decide +kernel
set_option maxRecDepth 20000 in
theorem E_k_rise {X : lk_X} {d : Nat} {a0 : Nat} {h : lk_H} {Q : Option Value → lk_H → Prop} (H : lk_al2 h a0 (fun r1 => lk_wp X (d + 1) 13 10 [.retAddr 0, .int ((-1)), .ref a0, .int r1, .int 0, .retAddr 0] [] h Q)) : lk_wx X (d + 1) 13 [.ref a0] h Q := by
  refine lk_enter (lo := [.ref a0, .retAddr 0, .retAddr 0, .retAddr 0, .retAddr 0, .retAddr 0]) lk_M13 rfl (Nat.le_of_ble_eq_true rfl) ?_
  refine lk_wp_seg (lo' := [.ref a0, .int ((-1)), .ref a0, .retAddr 0, .retAddr 0, .retAddr 0]) (st' := [.ref a0]) lk_M13 lk_s13_0_5 rfl ?_
  refine lk_wp_al lk_i13_5 lk_M13 H (fun r1 H => ?_)
  refine lk_wp_seg (lo' := [.ref a0, .int ((-1)), .ref a0, .int r1, .int 0, .retAddr 0]) (st' := []) lk_M13 lk_s13_6_3 rfl ?_
  exact H.forget (lk_le_d (lk_le_s (lk_le_s (lk_le_s (lk_le_s (lk_le_s lk_le_n))))))
set_option maxRecDepth 20000 in
theorem F_k_rise_10 {X : lk_X} {d : Nat} {x1 x3 x4 : Int32} {a2 : Nat} {h : lk_H} {Q : Option Value → lk_H → Prop} (H : (x3 ≤ x4 → Q (some (.int 1)) h) ∧ (¬ x3 ≤ x4 → lk_ai h a2 x4 (fun r1 => (r1 ≤ x1 → Q (some (.int 0)) h) ∧ (¬ r1 ≤ x1 → (r1 ≤ 200 → lk_wp X (d + 1) 13 10 [.retAddr 0, .int r1, .ref a2, .int x3, .int (x4 + 1), .retAddr 0] [] h Q) ∧ (¬ r1 ≤ 200 → Q (some (.int 0)) h))))) : lk_wp X (d + 1) 13 10 [.retAddr 0, .int x1, .ref a2, .int x3, .int x4, .retAddr 0] [] h Q := by
  refine lk_wp_seg (lo' := [.retAddr 0, .int x1, .ref a2, .int x3, .int x4, .retAddr 0]) (st' := [.int x3, .int x4]) lk_M13 lk_s13_10_2 rfl ?_
  refine lk_wp_ic_ge lk_i13_13 lk_M13 H (fun H => ?_) (fun H => ?_)
  · refine lk_wp_seg (lo' := [.retAddr 0, .int x1, .ref a2, .int x3, .int x4, .retAddr 0]) (st' := [.int 1]) lk_M13 lk_s13_47_1 rfl ?_
    exact lk_wp_ret lk_i13_48 lk_M13 rfl H
  · refine lk_wp_seg (lo' := [.retAddr 0, .int x1, .ref a2, .int x3, .int x4, .retAddr 0]) (st' := [.int x4, .ref a2]) lk_M13 lk_s13_16_2 rfl ?_
    refine lk_wp_ai lk_i13_19 lk_M13 H (fun r1 H => ?_)
    refine lk_wp_seg (lo' := [.retAddr 0, .int x1, .ref a2, .int x3, .int x4, .int r1]) (st' := [.int x1, .int r1]) lk_M13 lk_s13_20_3 rfl ?_
    refine lk_wp_ic_le lk_i13_25 lk_M13 H (fun H => ?_) (fun H => ?_)
    · refine lk_wp_seg (lo' := [.retAddr 0, .int x1, .ref a2, .int x3, .int x4, .int r1]) (st' := [.int 0]) lk_M13 lk_s13_36_1 rfl ?_
      exact lk_wp_ret lk_i13_37 lk_M13 rfl H
    · refine lk_wp_seg (lo' := [.retAddr 0, .int x1, .ref a2, .int x3, .int x4, .int r1]) (st' := [.int 200, .int r1]) lk_M13 lk_s13_28_2 rfl ?_
      refine lk_wp_ic_le lk_i13_33 lk_M13 H (fun H => ?_) (fun H => ?_)
      · refine lk_wp_seg (lo' := [.retAddr 0, .int r1, .ref a2, .int x3, .int (x4 + 1), .int r1]) (st' := []) lk_M13 lk_s13_38_4 rfl ?_
        exact H.forget (lk_le_s (lk_le_s (lk_le_s (lk_le_s (lk_le_s (lk_le_d lk_le_n))))))
      · refine lk_wp_seg (lo' := [.retAddr 0, .int x1, .ref a2, .int x3, .int x4, .int r1]) (st' := [.int 0]) lk_M13 lk_s13_36_1 rfl ?_
        exact lk_wp_ret lk_i13_37 lk_M13 rfl H
/-! LonelyDots$Marks.hasAllDistances()Z -/
theorem lk_M14 : lk_mt[14]? = some (yX2_hasAllDistances, cX2_hasAllDistances, 2, ((some FieldType.boolean))) := rfl
theorem lk_s14_0_1 : lk_seg 14 [(.aload_n 0, 1, (0, [], .null))] 0 = some 1 := by decide +kernel
theorem lk_i14_1 : lk_ins 14 1 = some (.getfield 27, 3, (0, [(0, 3), (2, 3), (4, 3), (5, 3), (6, 3)], .null)) := lk_eqE_eq (by decide +kernel)
theorem lk_i14_4 : lk_ins 14 4 = some (.arraylength, 1, (0, [], .null)) := lk_eqE_eq (by decide +kernel)
theorem lk_s14_5_7 : lk_seg 14 [(.istore_n 1, 1, (0, [], .null)), (.iload_n 1, 1, (0, [], .null)), (.iload_n 1, 1, (0, [], .null)), (.iconst 1, 1, (0, [], .int (1))), (.isub, 1, (0, [], .null)), (.imul, 1, (0, [], .null)), (.iconst 2, 1, (0, [], .int (2)))] 5 = some 12 := by decide +kernel
theorem lk_i14_12 : lk_ins 14 12 = some (.idiv, 1, (0, [], .null)) := lk_eqE_eq (by decide +kernel)
theorem lk_s14_13_1 : lk_seg 14 [(.aload_n 0, 1, (0, [], .null))] 13 = some 14 := by decide +kernel
theorem lk_i14_14 : lk_ins 14 14 = some (.getfield 27, 3, (0, [(0, 3), (2, 3), (4, 3), (5, 3), (6, 3)], .null)) := lk_eqE_eq (by decide +kernel)
theorem lk_s14_17_3 : lk_seg 14 [(.iload_n 1, 1, (0, [], .null)), (.iconst 1, 1, (0, [], .int (1))), (.isub, 1, (0, [], .null))] 17 = some 20 := by decide +kernel
theorem lk_i14_20 : lk_ins 14 20 = some (.iaload, 1, (0, [], .null)) := lk_eqE_eq (by decide +kernel)
theorem lk_s14_21_1 : lk_seg 14 [(.aload_n 0, 1, (0, [], .null))] 21 = some 22 := by decide +kernel
theorem lk_i14_22 : lk_ins 14 22 = some (.getfield 27, 3, (0, [(0, 3), (2, 3), (4, 3), (5, 3), (6, 3)], .null)) := lk_eqE_eq (by decide +kernel)
theorem lk_s14_25_1 : lk_seg 14 [(.iconst 0, 1, (0, [], .int (0)))] 25 = some 26 := by decide +kernel
theorem lk_i14_26 : lk_ins 14 26 = some (.iaload, 1, (0, [], .null)) := lk_eqE_eq (by decide +kernel)
theorem lk_s14_27_1 : lk_seg 14 [(.isub, 1, (0, [], .null))] 27 = some 28 := by decide +kernel
theorem lk_i14_28 : lk_ins 14 28 = some (.if_icmp .ne 7, 3, (35, [], .null)) := lk_eqE_eq (by decide +kernel)
theorem lk_s14_35_1 : lk_seg 14 [(.iconst 0, 1, (0, [], .int (0)))] 35 = some 36 := by decide +kernel
theorem lk_i14_36 : lk_ins 14 36 = some (.ireturn, 1, (0, [], .null)) := lk_eqE_eq (by decide +kernel)
theorem lk_s14_31_2 : lk_seg 14 [(.iconst 1, 1, (0, [], .int (1))), (.goto 4, 3, (36, [], .null))] 31 = some 36 := by decide +kernel
set_option maxRecDepth 20000 in
theorem E_k_hasAllDistances {X : lk_X} {d : Nat} {a0 : Nat} {h : lk_H} {Q : Option Value → lk_H → Prop} (H : lk_fR h a0 0 [(0, 3), (2, 3), (4, 3), (5, 3), (6, 3)] (fun r1 => lk_al2 h r1 (fun r2 => ¬ (2 : Int32) = 0 ∧ (lk_fR h a0 0 [(0, 3), (2, 3), (4, 3), (5, 3), (6, 3)] (fun r3 => lk_ai h r3 (r2 - 1) (fun r4 => lk_fR h a0 0 [(0, 3), (2, 3), (4, 3), (5, 3), (6, 3)] (fun r5 => lk_ai h r5 0 (fun r6 => (¬ ((r2 * (r2 - 1)) / (2 : Int32)) = (r4 - r6) → Q (some (.int 0)) h) ∧ (((r2 * (r2 - 1)) / (2 : Int32)) = (r4 - r6) → Q (some (.int 1)) h))))))))) : lk_wx X (d + 1) 14 [.ref a0] h Q := by
  refine lk_enter (lo := [.ref a0, .retAddr 0]) lk_M14 rfl (Nat.le_of_ble_eq_true rfl) ?_
  refine lk_wp_seg (lo' := [.ref a0, .retAddr 0]) (st' := [.ref a0]) lk_M14 lk_s14_0_1 rfl ?_
  refine lk_wp_fR lk_i14_1 lk_M14 H (fun r1 H => ?_)
  refine lk_wp_al lk_i14_4 lk_M14 H (fun r2 H => ?_)
  refine lk_wp_seg (lo' := [.ref a0, .int r2]) (st' := [.int 2, .int (r2 * (r2 - 1))]) lk_M14 lk_s14_5_7 rfl ?_
  refine lk_wp_div lk_i14_12 lk_M14 H (fun H => ?_)
  refine lk_wp_seg (lo' := [.ref a0, .int r2]) (st' := [.ref a0, .int ((r2 * (r2 - 1)) / (2 : Int32))]) lk_M14 lk_s14_13_1 rfl ?_
  refine lk_wp_fR lk_i14_14 lk_M14 H (fun r3 H => ?_)
  refine lk_wp_seg (lo' := [.ref a0, .int r2]) (st' := [.int (r2 - 1), .ref r3, .int ((r2 * (r2 - 1)) / (2 : Int32))]) lk_M14 lk_s14_17_3 rfl ?_
  refine lk_wp_ai lk_i14_20 lk_M14 H (fun r4 H => ?_)
  refine lk_wp_seg (lo' := [.ref a0, .int r2]) (st' := [.ref a0, .int r4, .int ((r2 * (r2 - 1)) / (2 : Int32))]) lk_M14 lk_s14_21_1 rfl ?_
  refine lk_wp_fR lk_i14_22 lk_M14 H (fun r5 H => ?_)
  refine lk_wp_seg (lo' := [.ref a0, .int r2]) (st' := [.int 0, .ref r5, .int r4, .int ((r2 * (r2 - 1)) / (2 : Int32))]) lk_M14 lk_s14_25_1 rfl ?_
  refine lk_wp_ai lk_i14_26 lk_M14 H (fun r6 H => ?_)
  refine lk_wp_seg (lo' := [.ref a0, .int r2]) (st' := [.int (r4 - r6), .int ((r2 * (r2 - 1)) / (2 : Int32))]) lk_M14 lk_s14_27_1 rfl ?_
  refine lk_wp_ic_ne lk_i14_28 lk_M14 H (fun H => ?_) (fun H => ?_)
  · refine lk_wp_seg (lo' := [.ref a0, .int r2]) (st' := [.int 0]) lk_M14 lk_s14_35_1 rfl ?_
    exact lk_wp_ret lk_i14_36 lk_M14 rfl H
  · refine lk_wp_seg (lo' := [.ref a0, .int r2]) (st' := [.int 1]) lk_M14 lk_s14_31_2 rfl ?_
    exact lk_wp_ret lk_i14_36 lk_M14 rfl H
/-! LonelyDots$Marks.toldKind()I -/
theorem lk_M15 : lk_mt[15]? = some (yX2_toldKind, cX2_toldKind, 1, ((some FieldType.int))) := rfl
theorem lk_s15_0_1 : lk_seg 15 [(.iconst 3, 1, (0, [], .int (3)))] 0 = some 1 := by decide +kernel
theorem lk_i15_1 : lk_ins 15 1 = some (.ireturn, 1, (0, [], .null)) := lk_eqE_eq (by decide +kernel)
set_option maxRecDepth 20000 in
theorem E_k_toldKind {X : lk_X} {d : Nat} {a0 : Nat} {h : lk_H} {Q : Option Value → lk_H → Prop} (H : Q (some (.int 3)) h) : lk_wx X (d + 1) 15 [.ref a0] h Q := by
  refine lk_enter (lo := [.ref a0]) lk_M15 rfl (Nat.le_of_ble_eq_true rfl) ?_
  refine lk_wp_seg (lo' := [.ref a0]) (st' := [.int 3]) lk_M15 lk_s15_0_1 rfl ?_
  exact lk_wp_ret lk_i15_1 lk_M15 rfl H
/-! LonelyDots$Marks.secondAlike(III)I -/
theorem lk_M16 : lk_mt[16]? = some (yX2_secondAlike, cX2_secondAlike, 6, ((some FieldType.int))) := rfl
theorem lk_s16_0_1 : lk_seg 16 [(.aload_n 0, 1, (0, [], .null))] 0 = some 1 := by decide +kernel
theorem lk_i16_1 : lk_ins 16 1 = some (.getfield 27, 3, (0, [(0, 3), (2, 3), (4, 3), (5, 3), (6, 3)], .null)) := lk_eqE_eq (by decide +kernel)
theorem lk_s16_4_1 : lk_seg 16 [(.iload_n 3, 1, (0, [], .null))] 4 = some 5 := by decide +kernel
theorem lk_i16_5 : lk_ins 16 5 = some (.iaload, 1, (0, [], .null)) := lk_eqE_eq (by decide +kernel)
theorem lk_s16_6_1 : lk_seg 16 [(.aload_n 0, 1, (0, [], .null))] 6 = some 7 := by decide +kernel
theorem lk_i16_7 : lk_ins 16 7 = some (.getfield 27, 3, (0, [(0, 3), (2, 3), (4, 3), (5, 3), (6, 3)], .null)) := lk_eqE_eq (by decide +kernel)
theorem lk_s16_10_1 : lk_seg 16 [(.iload_n 2, 1, (0, [], .null))] 10 = some 11 := by decide +kernel
theorem lk_i16_11 : lk_ins 16 11 = some (.iaload, 1, (0, [], .null)) := lk_eqE_eq (by decide +kernel)
theorem lk_s16_12_2 : lk_seg 16 [(.iadd, 1, (0, [], .null)), (.aload_n 0, 1, (0, [], .null))] 12 = some 14 := by decide +kernel
theorem lk_i16_14 : lk_ins 16 14 = some (.getfield 27, 3, (0, [(0, 3), (2, 3), (4, 3), (5, 3), (6, 3)], .null)) := lk_eqE_eq (by decide +kernel)
theorem lk_s16_17_1 : lk_seg 16 [(.iload_n 1, 1, (0, [], .null))] 17 = some 18 := by decide +kernel
theorem lk_i16_18 : lk_ins 16 18 = some (.iaload, 1, (0, [], .null)) := lk_eqE_eq (by decide +kernel)
theorem lk_s16_19_6 : lk_seg 16 [(.isub, 1, (0, [], .null)), (.istore 4, 2, (0, [], .null)), (.iload_n 3, 1, (0, [], .null)), (.iconst 1, 1, (0, [], .int (1))), (.iadd, 1, (0, [], .null)), (.istore 5, 2, (0, [], .null))] 19 = some 27 := by decide +kernel
theorem lk_s16_27_2 : lk_seg 16 [(.iload 5, 2, (0, [], .null)), (.aload_n 0, 1, (0, [], .null))] 27 = some 30 := by decide +kernel
theorem lk_i16_30 : lk_ins 16 30 = some (.getfield 27, 3, (0, [(0, 3), (2, 3), (4, 3), (5, 3), (6, 3)], .null)) := lk_eqE_eq (by decide +kernel)
theorem lk_i16_33 : lk_ins 16 33 = some (.arraylength, 1, (0, [], .null)) := lk_eqE_eq (by decide +kernel)
theorem lk_i16_34 : lk_ins 16 34 = some (.if_icmp .ge 24, 3, (58, [], .null)) := lk_eqE_eq (by decide +kernel)
theorem lk_s16_58_1 : lk_seg 16 [(.iconst (-1), 1, (0, [], .int (-1)))] 58 = some 59 := by decide +kernel
theorem lk_i16_59 : lk_ins 16 59 = some (.ireturn, 1, (0, [], .null)) := lk_eqE_eq (by decide +kernel)
theorem lk_s16_37_1 : lk_seg 16 [(.aload_n 0, 1, (0, [], .null))] 37 = some 38 := by decide +kernel
theorem lk_i16_38 : lk_ins 16 38 = some (.getfield 27, 3, (0, [(0, 3), (2, 3), (4, 3), (5, 3), (6, 3)], .null)) := lk_eqE_eq (by decide +kernel)
theorem lk_s16_41_1 : lk_seg 16 [(.iload 5, 2, (0, [], .null))] 41 = some 43 := by decide +kernel
theorem lk_i16_43 : lk_ins 16 43 = some (.iaload, 1, (0, [], .null)) := lk_eqE_eq (by decide +kernel)
theorem lk_s16_44_1 : lk_seg 16 [(.iload 4, 2, (0, [], .null))] 44 = some 46 := by decide +kernel
theorem lk_i16_46 : lk_ins 16 46 = some (.if_icmp .ne 6, 3, (52, [], .null)) := lk_eqE_eq (by decide +kernel)
theorem lk_s16_52_2 : lk_seg 16 [(.iinc 5 1, 3, (0, [], .int (1))), (.goto (-28), 3, (27, [], .null))] 52 = some 27 := by decide +kernel
theorem lk_s16_49_1 : lk_seg 16 [(.iload 5, 2, (0, [], .null))] 49 = some 51 := by decide +kernel
theorem lk_i16_51 : lk_ins 16 51 = some (.ireturn, 1, (0, [], .null)) := lk_eqE_eq (by decide +kernel)
set_option maxRecDepth 20000 in
theorem E_k_secondAlike {X : lk_X} {d : Nat} {x1 x2 x3 : Int32} {a0 : Nat} {h : lk_H} {Q : Option Value → lk_H → Prop} (H : lk_fR h a0 0 [(0, 3), (2, 3), (4, 3), (5, 3), (6, 3)] (fun r1 => lk_ai h r1 x3 (fun r2 => lk_fR h a0 0 [(0, 3), (2, 3), (4, 3), (5, 3), (6, 3)] (fun r3 => lk_ai h r3 x2 (fun r4 => lk_fR h a0 0 [(0, 3), (2, 3), (4, 3), (5, 3), (6, 3)] (fun r5 => lk_ai h r5 x1 (fun r6 => lk_wp X (d + 1) 16 27 [.ref a0, .retAddr 0, .retAddr 0, .retAddr 0, .int ((r2 + r4) - r6), .int (x3 + 1)] [] h Q))))))) : lk_wx X (d + 1) 16 [.ref a0, .int x1, .int x2, .int x3] h Q := by
  refine lk_enter (lo := [.ref a0, .int x1, .int x2, .int x3, .retAddr 0, .retAddr 0]) lk_M16 rfl (Nat.le_of_ble_eq_true rfl) ?_
  refine lk_wp_seg (lo' := [.ref a0, .int x1, .int x2, .int x3, .retAddr 0, .retAddr 0]) (st' := [.ref a0]) lk_M16 lk_s16_0_1 rfl ?_
  refine lk_wp_fR lk_i16_1 lk_M16 H (fun r1 H => ?_)
  refine lk_wp_seg (lo' := [.ref a0, .int x1, .int x2, .int x3, .retAddr 0, .retAddr 0]) (st' := [.int x3, .ref r1]) lk_M16 lk_s16_4_1 rfl ?_
  refine lk_wp_ai lk_i16_5 lk_M16 H (fun r2 H => ?_)
  refine lk_wp_seg (lo' := [.ref a0, .int x1, .int x2, .int x3, .retAddr 0, .retAddr 0]) (st' := [.ref a0, .int r2]) lk_M16 lk_s16_6_1 rfl ?_
  refine lk_wp_fR lk_i16_7 lk_M16 H (fun r3 H => ?_)
  refine lk_wp_seg (lo' := [.ref a0, .int x1, .int x2, .int x3, .retAddr 0, .retAddr 0]) (st' := [.int x2, .ref r3, .int r2]) lk_M16 lk_s16_10_1 rfl ?_
  refine lk_wp_ai lk_i16_11 lk_M16 H (fun r4 H => ?_)
  refine lk_wp_seg (lo' := [.ref a0, .int x1, .int x2, .int x3, .retAddr 0, .retAddr 0]) (st' := [.ref a0, .int (r2 + r4)]) lk_M16 lk_s16_12_2 rfl ?_
  refine lk_wp_fR lk_i16_14 lk_M16 H (fun r5 H => ?_)
  refine lk_wp_seg (lo' := [.ref a0, .int x1, .int x2, .int x3, .retAddr 0, .retAddr 0]) (st' := [.int x1, .ref r5, .int (r2 + r4)]) lk_M16 lk_s16_17_1 rfl ?_
  refine lk_wp_ai lk_i16_18 lk_M16 H (fun r6 H => ?_)
  refine lk_wp_seg (lo' := [.ref a0, .int x1, .int x2, .int x3, .int ((r2 + r4) - r6), .int (x3 + 1)]) (st' := []) lk_M16 lk_s16_19_6 rfl ?_
  exact H.forget (lk_le_s (lk_le_d (lk_le_d (lk_le_d (lk_le_s (lk_le_s lk_le_n))))))
set_option maxRecDepth 20000 in
theorem F_k_secondAlike_27 {X : lk_X} {d : Nat} {x4 x5 : Int32} {a0 : Nat} {h : lk_H} {Q : Option Value → lk_H → Prop} (H : lk_fR h a0 0 [(0, 3), (2, 3), (4, 3), (5, 3), (6, 3)] (fun r1 => lk_al2 h r1 (fun r2 => (r2 ≤ x5 → Q (some (.int ((-1)))) h) ∧ (¬ r2 ≤ x5 → lk_fR h a0 0 [(0, 3), (2, 3), (4, 3), (5, 3), (6, 3)] (fun r3 => lk_ai h r3 x5 (fun r4 => (¬ r4 = x4 → lk_wp X (d + 1) 16 27 [.ref a0, .retAddr 0, .retAddr 0, .retAddr 0, .int x4, .int (x5 + 1)] [] h Q) ∧ (r4 = x4 → Q (some (.int x5)) h))))))) : lk_wp X (d + 1) 16 27 [.ref a0, .retAddr 0, .retAddr 0, .retAddr 0, .int x4, .int x5] [] h Q := by
  refine lk_wp_seg (lo' := [.ref a0, .retAddr 0, .retAddr 0, .retAddr 0, .int x4, .int x5]) (st' := [.ref a0, .int x5]) lk_M16 lk_s16_27_2 rfl ?_
  refine lk_wp_fR lk_i16_30 lk_M16 H (fun r1 H => ?_)
  refine lk_wp_al lk_i16_33 lk_M16 H (fun r2 H => ?_)
  refine lk_wp_ic_ge lk_i16_34 lk_M16 H (fun H => ?_) (fun H => ?_)
  · refine lk_wp_seg (lo' := [.ref a0, .retAddr 0, .retAddr 0, .retAddr 0, .int x4, .int x5]) (st' := [.int ((-1))]) lk_M16 lk_s16_58_1 rfl ?_
    exact lk_wp_ret lk_i16_59 lk_M16 rfl H
  · refine lk_wp_seg (lo' := [.ref a0, .retAddr 0, .retAddr 0, .retAddr 0, .int x4, .int x5]) (st' := [.ref a0]) lk_M16 lk_s16_37_1 rfl ?_
    refine lk_wp_fR lk_i16_38 lk_M16 H (fun r3 H => ?_)
    refine lk_wp_seg (lo' := [.ref a0, .retAddr 0, .retAddr 0, .retAddr 0, .int x4, .int x5]) (st' := [.int x5, .ref r3]) lk_M16 lk_s16_41_1 rfl ?_
    refine lk_wp_ai lk_i16_43 lk_M16 H (fun r4 H => ?_)
    refine lk_wp_seg (lo' := [.ref a0, .retAddr 0, .retAddr 0, .retAddr 0, .int x4, .int x5]) (st' := [.int x4, .int r4]) lk_M16 lk_s16_44_1 rfl ?_
    refine lk_wp_ic_ne lk_i16_46 lk_M16 H (fun H => ?_) (fun H => ?_)
    · refine lk_wp_seg (lo' := [.ref a0, .retAddr 0, .retAddr 0, .retAddr 0, .int x4, .int (x5 + 1)]) (st' := []) lk_M16 lk_s16_52_2 rfl ?_
      exact H
    · refine lk_wp_seg (lo' := [.ref a0, .retAddr 0, .retAddr 0, .retAddr 0, .int x4, .int x5]) (st' := [.int x5]) lk_M16 lk_s16_49_1 rfl ?_
      exact lk_wp_ret lk_i16_51 lk_M16 rfl H
/-! LonelyDots$Marks.askSize(LLonelyDots$Trace;)I -/
theorem lk_M17 : lk_mt[17]? = some (yX2_askSize, cX2_askSize, 2, ((some FieldType.int))) := rfl
theorem lk_s17_0_2 : lk_seg 17 [(.aload_n 1, 1, (0, [], .null)), (.bipush 12, 2, (0, [], .int (12)))] 0 = some 3 := by decide +kernel
theorem lk_i17_3 : lk_ins 17 3 = some (.invokevirtual 31, 3, (1, [(9, 63)], .ref 1)) := lk_eqE_eq (by decide +kernel)
theorem lk_s17_6_2 : lk_seg 17 [(.aload_n 0, 1, (0, [], .null)), (.aload_n 1, 1, (0, [], .null))] 6 = some 8 := by decide +kernel
theorem lk_i17_8 : lk_ins 17 8 = some (.invokespecial 37, 3, (5, [(0, 56)], .ref 16)) := lk_eqE_eq (by decide +kernel)
theorem lk_s17_11_1 : lk_seg 17 [(.aload_n 0, 1, (0, [], .null))] 11 = some 12 := by decide +kernel
theorem lk_i17_12 : lk_ins 17 12 = some (.getfield 27, 3, (0, [(0, 3), (2, 3), (4, 3), (5, 3), (6, 3)], .null)) := lk_eqE_eq (by decide +kernel)
theorem lk_s17_15_1 : lk_seg 17 [(.aload_n 0, 1, (0, [], .null))] 15 = some 16 := by decide +kernel
theorem lk_i17_16 : lk_ins 17 16 = some (.getfield 27, 3, (0, [(0, 3), (2, 3), (4, 3), (5, 3), (6, 3)], .null)) := lk_eqE_eq (by decide +kernel)
theorem lk_i17_19 : lk_ins 17 19 = some (.arraylength, 1, (0, [], .null)) := lk_eqE_eq (by decide +kernel)
theorem lk_s17_20_2 : lk_seg 17 [(.iconst 1, 1, (0, [], .int (1))), (.isub, 1, (0, [], .null))] 20 = some 22 := by decide +kernel
theorem lk_i17_22 : lk_ins 17 22 = some (.iaload, 1, (0, [], .null)) := lk_eqE_eq (by decide +kernel)
theorem lk_s17_23_1 : lk_seg 17 [(.iadd, 1, (0, [], .null))] 23 = some 24 := by decide +kernel
theorem lk_i17_24 : lk_ins 17 24 = some (.ireturn, 1, (0, [], .null)) := lk_eqE_eq (by decide +kernel)
set_option maxRecDepth 20000 in
theorem E_k_askSize {X : lk_X} {d : Nat} {a0 a1 : Nat} {h : lk_H} {Q : Option Value → lk_H → Prop} (H : lk_vc h a1 [(9, 63)] (fun k8 => lk_wxv X d k8 [.ref a1, .int 12] h (fun h1 => lk_ob h1 a0 (lk_wxi X d 56 [.ref a0, .ref a1] h1 (fun r3 h2 => lk_fR h2 a0 0 [(0, 3), (2, 3), (4, 3), (5, 3), (6, 3)] (fun r4 => lk_fR h2 a0 0 [(0, 3), (2, 3), (4, 3), (5, 3), (6, 3)] (fun r5 => lk_al2 h2 r5 (fun r6 => lk_ai h2 r4 (r6 - 1) (fun r7 => Q (some (.int (r3 + r7))) h2))))))))) : lk_wx X (d + 1) 17 [.ref a0, .ref a1] h Q := by
  refine lk_enter (lo := [.ref a0, .ref a1]) lk_M17 rfl (Nat.le_of_ble_eq_true rfl) ?_
  refine lk_wp_seg (lo' := [.ref a0, .ref a1]) (st' := [.int 12, .ref a1]) lk_M17 lk_s17_0_2 rfl ?_
  refine lk_wp_cv (as := [.int 12]) (r := []) (a := a1) lk_i17_3 lk_M17 rfl rfl rfl (Nat.le_of_ble_eq_true rfl) H (fun k8 H => lk_gv H (fun h1 H => ?_))
  refine lk_wp_seg (lo' := [.ref a0, .ref a1]) (st' := [.ref a1, .ref a0]) lk_M17 lk_s17_6_2 rfl ?_
  refine lk_wp_cp (as := [.ref a1]) (r := []) (a := a0) lk_i17_8 lk_M17 rfl rfl rfl rfl (Nat.le_of_ble_eq_true rfl) H (fun H => lk_gi H (fun r3 h2 H => ?_))
  refine lk_wp_seg (lo' := [.ref a0, .ref a1]) (st' := [.ref a0, .int r3]) lk_M17 lk_s17_11_1 rfl ?_
  refine lk_wp_fR lk_i17_12 lk_M17 H (fun r4 H => ?_)
  refine lk_wp_seg (lo' := [.ref a0, .ref a1]) (st' := [.ref a0, .ref r4, .int r3]) lk_M17 lk_s17_15_1 rfl ?_
  refine lk_wp_fR lk_i17_16 lk_M17 H (fun r5 H => ?_)
  refine lk_wp_al lk_i17_19 lk_M17 H (fun r6 H => ?_)
  refine lk_wp_seg (lo' := [.ref a0, .ref a1]) (st' := [.int (r6 - 1), .ref r4, .int r3]) lk_M17 lk_s17_20_2 rfl ?_
  refine lk_wp_ai lk_i17_22 lk_M17 H (fun r7 H => ?_)
  refine lk_wp_seg (lo' := [.ref a0, .ref a1]) (st' := [.int (r3 + r7)]) lk_M17 lk_s17_23_1 rfl ?_
  exact lk_wp_ret lk_i17_24 lk_M17 rfl H
/-! LonelyDots$Marks.askMark(LLonelyDots$Trace;)I -/
theorem lk_M18 : lk_mt[18]? = some (yX2_askMark, cX2_askMark, 2, ((some FieldType.int))) := rfl
theorem lk_s18_0_2 : lk_seg 18 [(.aload_n 1, 1, (0, [], .null)), (.bipush 22, 2, (0, [], .int (22)))] 0 = some 3 := by decide +kernel
theorem lk_i18_3 : lk_ins 18 3 = some (.invokevirtual 31, 3, (1, [(9, 63)], .ref 1)) := lk_eqE_eq (by decide +kernel)
theorem lk_s18_6_1 : lk_seg 18 [(.aload_n 0, 1, (0, [], .null))] 6 = some 7 := by decide +kernel
theorem lk_i18_7 : lk_ins 18 7 = some (.getfield 27, 3, (0, [(0, 3), (2, 3), (4, 3), (5, 3), (6, 3)], .null)) := lk_eqE_eq (by decide +kernel)
theorem lk_i18_10 : lk_ins 18 10 = some (.arraylength, 1, (0, [], .null)) := lk_eqE_eq (by decide +kernel)
theorem lk_i18_11 : lk_ins 18 11 = some (.ireturn, 1, (0, [], .null)) := lk_eqE_eq (by decide +kernel)
set_option maxRecDepth 20000 in
theorem E_k_askMark {X : lk_X} {d : Nat} {a0 a1 : Nat} {h : lk_H} {Q : Option Value → lk_H → Prop} (H : lk_vc h a1 [(9, 63)] (fun k4 => lk_wxv X d k4 [.ref a1, .int 22] h (fun h1 => lk_fR h1 a0 0 [(0, 3), (2, 3), (4, 3), (5, 3), (6, 3)] (fun r2 => lk_al2 h1 r2 (fun r3 => Q (some (.int r3)) h1))))) : lk_wx X (d + 1) 18 [.ref a0, .ref a1] h Q := by
  refine lk_enter (lo := [.ref a0, .ref a1]) lk_M18 rfl (Nat.le_of_ble_eq_true rfl) ?_
  refine lk_wp_seg (lo' := [.ref a0, .ref a1]) (st' := [.int 22, .ref a1]) lk_M18 lk_s18_0_2 rfl ?_
  refine lk_wp_cv (as := [.int 22]) (r := []) (a := a1) lk_i18_3 lk_M18 rfl rfl rfl (Nat.le_of_ble_eq_true rfl) H (fun k4 H => lk_gv H (fun h1 H => ?_))
  refine lk_wp_seg (lo' := [.ref a0, .ref a1]) (st' := [.ref a0]) lk_M18 lk_s18_6_1 rfl ?_
  refine lk_wp_fR lk_i18_7 lk_M18 H (fun r2 H => ?_)
  refine lk_wp_al lk_i18_10 lk_M18 H (fun r3 H => ?_)
  exact lk_wp_ret lk_i18_11 lk_M18 rfl H
/-! LonelyDots$Moves.<init>()V -/
theorem lk_M19 : lk_mt[19]? = some (yX3_init, cX3_init, 1, ((none))) := rfl
theorem lk_s19_0_1 : lk_seg 19 [(.aload_n 0, 1, (0, [], .null))] 0 = some 1 := by decide +kernel
theorem lk_i19_1 : lk_ins 19 1 = some (.invokespecial 3, 3, (100, [], .null)) := lk_eqE_eq (by decide +kernel)
theorem lk_s19_4_2 : lk_seg 19 [(.aload_n 0, 1, (0, [], .null)), (.bipush 31, 2, (0, [], .int (31)))] 4 = some 7 := by decide +kernel
theorem lk_i19_7 : lk_ins 19 7 = some (.newarray .int, 2, (0, [], .null)) := lk_eqE_eq (by decide +kernel)
theorem lk_i19_9 : lk_ins 19 9 = some (.putfield 9, 3, (0, [(3, 0)], .null)) := lk_eqE_eq (by decide +kernel)
theorem lk_s19_12_2 : lk_seg 19 [(.aload_n 0, 1, (0, [], .null)), (.sipush 441, 3, (0, [], .int (441)))] 12 = some 16 := by decide +kernel
theorem lk_i19_16 : lk_ins 19 16 = some (.newarray .int, 2, (0, [], .null)) := lk_eqE_eq (by decide +kernel)
theorem lk_i19_18 : lk_ins 19 18 = some (.putfield 15, 3, (1, [(3, 0)], .null)) := lk_eqE_eq (by decide +kernel)
theorem lk_i19_21 : lk_ins 19 21 = some (.return_, 1, (0, [], .null)) := lk_eqE_eq (by decide +kernel)
set_option maxRecDepth 20000 in
theorem E_mv_init {X : lk_X} {d : Nat} {a0 : Nat} {h : lk_H} {Q : Option Value → lk_H → Prop} (H : lk_nw (31 : Int32) (lk_pf ((h ++ [.inl (0, ((31 : Int32).toNatClampNeg, .inl (fun _ => 0)))])) a0 0 [(3, 0)] (.ref (h.length)) (fun h1 => lk_nw (441 : Int32) (lk_pf ((h1 ++ [.inl (0, ((441 : Int32).toNatClampNeg, .inl (fun _ => 0)))])) a0 1 [(3, 0)] (.ref (h1.length)) (fun h2 => Q none h2))))) : lk_wx X (d + 1) 19 [.ref a0] h Q := by
  refine lk_enter (lo := [.ref a0]) lk_M19 rfl (Nat.le_of_ble_eq_true rfl) ?_
  refine lk_wp_seg (lo' := [.ref a0]) (st' := [.ref a0]) lk_M19 lk_s19_0_1 rfl ?_
  refine lk_wp_one lk_i19_1 lk_M19 rfl rfl rfl ?_
  refine lk_wp_seg (lo' := [.ref a0]) (st' := [.int 31, .ref a0]) lk_M19 lk_s19_4_2 rfl ?_
  refine lk_wp_new_int lk_i19_7 lk_M19 H (fun H => ?_)
  refine lk_wp_pf lk_i19_9 lk_M19 H (fun h1 H => ?_)
  refine lk_wp_seg (lo' := [.ref a0]) (st' := [.int 441, .ref a0]) lk_M19 lk_s19_12_2 rfl ?_
  refine lk_wp_new_int lk_i19_16 lk_M19 H (fun H => ?_)
  refine lk_wp_pf lk_i19_18 lk_M19 H (fun h2 H => ?_)
  exact lk_wp_ret lk_i19_21 lk_M19 rfl H
/-! LonelyDots$Moves.meetingDots([I[III)I -/
theorem lk_M20 : lk_mt[20]? = some (yX3_meetingDots, cX3_meetingDots, 7, ((some FieldType.int))) := rfl
theorem lk_s20_0_4 : lk_seg 20 [(.iconst 0, 1, (0, [], .int (0))), (.istore 4, 2, (0, [], .null)), (.iconst 0, 1, (0, [], .int (0))), (.istore 5, 2, (0, [], .null))] 0 = some 6 := by decide +kernel
theorem lk_s20_6_2 : lk_seg 20 [(.iload 5, 2, (0, [], .null)), (.aload_n 1, 1, (0, [], .null))] 6 = some 9 := by decide +kernel
theorem lk_i20_9 : lk_ins 20 9 = some (.arraylength, 1, (0, [], .null)) := lk_eqE_eq (by decide +kernel)
theorem lk_i20_10 : lk_ins 20 10 = some (.if_icmp .ge 43, 3, (53, [], .null)) := lk_eqE_eq (by decide +kernel)
theorem lk_s20_53_1 : lk_seg 20 [(.iload 4, 2, (0, [], .null))] 53 = some 55 := by decide +kernel
theorem lk_i20_55 : lk_ins 20 55 = some (.ireturn, 1, (0, [], .null)) := lk_eqE_eq (by decide +kernel)
theorem lk_s20_13_5 : lk_seg 20 [(.iload 5, 2, (0, [], .null)), (.iload_n 2, 1, (0, [], .null)), (.iadd, 1, (0, [], .null)), (.istore 6, 2, (0, [], .null)), (.iload 6, 2, (0, [], .null))] 13 = some 21 := by decide +kernel
theorem lk_i20_21 : lk_ins 20 21 = some (.ifCond .lt 26, 3, (47, [], .null)) := lk_eqE_eq (by decide +kernel)
theorem lk_s20_47_2 : lk_seg 20 [(.iinc 5 1, 3, (0, [], .int (1))), (.goto (-44), 3, (6, [], .null))] 47 = some 6 := by decide +kernel
theorem lk_s20_24_2 : lk_seg 20 [(.iload 6, 2, (0, [], .null)), (.aload_n 0, 1, (0, [], .null))] 24 = some 27 := by decide +kernel
theorem lk_i20_27 : lk_ins 20 27 = some (.arraylength, 1, (0, [], .null)) := lk_eqE_eq (by decide +kernel)
theorem lk_i20_28 : lk_ins 20 28 = some (.if_icmp .ge 19, 3, (47, [], .null)) := lk_eqE_eq (by decide +kernel)
theorem lk_s20_31_2 : lk_seg 20 [(.aload_n 0, 1, (0, [], .null)), (.iload 6, 2, (0, [], .null))] 31 = some 34 := by decide +kernel
theorem lk_i20_34 : lk_ins 20 34 = some (.iaload, 1, (0, [], .null)) := lk_eqE_eq (by decide +kernel)
theorem lk_s20_35_2 : lk_seg 20 [(.aload_n 1, 1, (0, [], .null)), (.iload 5, 2, (0, [], .null))] 35 = some 38 := by decide +kernel
theorem lk_i20_38 : lk_ins 20 38 = some (.iaload, 1, (0, [], .null)) := lk_eqE_eq (by decide +kernel)
theorem lk_s20_39_2 : lk_seg 20 [(.iload_n 3, 1, (0, [], .null)), (.iadd, 1, (0, [], .null))] 39 = some 41 := by decide +kernel
theorem lk_i20_41 : lk_ins 20 41 = some (.if_icmp .ne 6, 3, (47, [], .null)) := lk_eqE_eq (by decide +kernel)
theorem lk_s20_44_3 : lk_seg 20 [(.iinc 4 1, 3, (0, [], .int (1))), (.iinc 5 1, 3, (0, [], .int (1))), (.goto (-44), 3, (6, [], .null))] 44 = some 6 := by decide +kernel
set_option maxRecDepth 20000 in
theorem E_mv_meetingDots {X : lk_X} {d : Nat} {x2 x3 : Int32} {a0 a1 : Nat} {h : lk_H} {Q : Option Value → lk_H → Prop} (H : lk_wp X (d + 1) 20 6 [.ref a0, .ref a1, .int x2, .int x3, .int 0, .int 0, .retAddr 0] [] h Q) : lk_wx X (d + 1) 20 [.ref a0, .ref a1, .int x2, .int x3] h Q := by
  refine lk_enter (lo := [.ref a0, .ref a1, .int x2, .int x3, .retAddr 0, .retAddr 0, .retAddr 0]) lk_M20 rfl (Nat.le_of_ble_eq_true rfl) ?_
  refine lk_wp_seg (lo' := [.ref a0, .ref a1, .int x2, .int x3, .int 0, .int 0, .retAddr 0]) (st' := []) lk_M20 lk_s20_0_4 rfl ?_
  exact H
set_option maxRecDepth 20000 in
theorem F_mv_meetingDots_6 {X : lk_X} {d : Nat} {x2 x3 x4 x5 : Int32} {a0 a1 : Nat} {h : lk_H} {Q : Option Value → lk_H → Prop} (H : lk_al2 h a1 (fun r1 => (r1 ≤ x5 → Q (some (.int x4)) h) ∧ (¬ r1 ≤ x5 → ((x5 + x2) < 0 → lk_wp X (d + 1) 20 6 [.ref a0, .ref a1, .int x2, .int x3, .int x4, .int (x5 + 1), .retAddr 0] [] h Q) ∧ (¬ (x5 + x2) < 0 → lk_al2 h a0 (fun r2 => (r2 ≤ (x5 + x2) → lk_wp X (d + 1) 20 6 [.ref a0, .ref a1, .int x2, .int x3, .int x4, .int (x5 + 1), .retAddr 0] [] h Q) ∧ (¬ r2 ≤ (x5 + x2) → lk_ai h a0 (x5 + x2) (fun r3 => lk_ai h a1 x5 (fun r4 => (¬ r3 = (r4 + x3) → lk_wp X (d + 1) 20 6 [.ref a0, .ref a1, .int x2, .int x3, .int x4, .int (x5 + 1), .retAddr 0] [] h Q) ∧ (r3 = (r4 + x3) → lk_wp X (d + 1) 20 6 [.ref a0, .ref a1, .int x2, .int x3, .int (x4 + 1), .int (x5 + 1), .retAddr 0] [] h Q))))))))) : lk_wp X (d + 1) 20 6 [.ref a0, .ref a1, .int x2, .int x3, .int x4, .int x5, .retAddr 0] [] h Q := by
  refine lk_wp_seg (lo' := [.ref a0, .ref a1, .int x2, .int x3, .int x4, .int x5, .retAddr 0]) (st' := [.ref a1, .int x5]) lk_M20 lk_s20_6_2 rfl ?_
  refine lk_wp_al lk_i20_9 lk_M20 H (fun r1 H => ?_)
  refine lk_wp_ic_ge lk_i20_10 lk_M20 H (fun H => ?_) (fun H => ?_)
  · refine lk_wp_seg (lo' := [.ref a0, .ref a1, .int x2, .int x3, .int x4, .int x5, .retAddr 0]) (st' := [.int x4]) lk_M20 lk_s20_53_1 rfl ?_
    exact lk_wp_ret lk_i20_55 lk_M20 rfl H
  · refine lk_wp_seg (lo' := [.ref a0, .ref a1, .int x2, .int x3, .int x4, .int x5, .int (x5 + x2)]) (st' := [.int (x5 + x2)]) lk_M20 lk_s20_13_5 rfl ?_
    refine lk_wp_if_lt lk_i20_21 lk_M20 H (fun H => ?_) (fun H => ?_)
    · refine lk_wp_seg (lo' := [.ref a0, .ref a1, .int x2, .int x3, .int x4, .int (x5 + 1), .int (x5 + x2)]) (st' := []) lk_M20 lk_s20_47_2 rfl ?_
      exact H.forget (lk_le_s (lk_le_s (lk_le_s (lk_le_s (lk_le_s (lk_le_s (lk_le_d lk_le_n)))))))
    · refine lk_wp_seg (lo' := [.ref a0, .ref a1, .int x2, .int x3, .int x4, .int x5, .int (x5 + x2)]) (st' := [.ref a0, .int (x5 + x2)]) lk_M20 lk_s20_24_2 rfl ?_
      refine lk_wp_al lk_i20_27 lk_M20 H (fun r2 H => ?_)
      refine lk_wp_ic_ge lk_i20_28 lk_M20 H (fun H => ?_) (fun H => ?_)
      · refine lk_wp_seg (lo' := [.ref a0, .ref a1, .int x2, .int x3, .int x4, .int (x5 + 1), .int (x5 + x2)]) (st' := []) lk_M20 lk_s20_47_2 rfl ?_
        exact H.forget (lk_le_s (lk_le_s (lk_le_s (lk_le_s (lk_le_s (lk_le_s (lk_le_d lk_le_n)))))))
      · refine lk_wp_seg (lo' := [.ref a0, .ref a1, .int x2, .int x3, .int x4, .int x5, .int (x5 + x2)]) (st' := [.int (x5 + x2), .ref a0]) lk_M20 lk_s20_31_2 rfl ?_
        refine lk_wp_ai lk_i20_34 lk_M20 H (fun r3 H => ?_)
        refine lk_wp_seg (lo' := [.ref a0, .ref a1, .int x2, .int x3, .int x4, .int x5, .int (x5 + x2)]) (st' := [.int x5, .ref a1, .int r3]) lk_M20 lk_s20_35_2 rfl ?_
        refine lk_wp_ai lk_i20_38 lk_M20 H (fun r4 H => ?_)
        refine lk_wp_seg (lo' := [.ref a0, .ref a1, .int x2, .int x3, .int x4, .int x5, .int (x5 + x2)]) (st' := [.int (r4 + x3), .int r3]) lk_M20 lk_s20_39_2 rfl ?_
        refine lk_wp_ic_ne lk_i20_41 lk_M20 H (fun H => ?_) (fun H => ?_)
        · refine lk_wp_seg (lo' := [.ref a0, .ref a1, .int x2, .int x3, .int x4, .int (x5 + 1), .int (x5 + x2)]) (st' := []) lk_M20 lk_s20_47_2 rfl ?_
          exact H.forget (lk_le_s (lk_le_s (lk_le_s (lk_le_s (lk_le_s (lk_le_s (lk_le_d lk_le_n)))))))
        · refine lk_wp_seg (lo' := [.ref a0, .ref a1, .int x2, .int x3, .int (x4 + 1), .int (x5 + 1), .int (x5 + x2)]) (st' := []) lk_M20 lk_s20_44_3 rfl ?_
          exact H.forget (lk_le_s (lk_le_s (lk_le_s (lk_le_s (lk_le_s (lk_le_s (lk_le_d lk_le_n)))))))
/-! LonelyDots$Moves.mostOfTwo([I[I)I -/
theorem lk_M21 : lk_mt[21]? = some (yX3_mostOfTwo, cX3_mostOfTwo, 5, ((some FieldType.int))) := rfl
theorem lk_s21_0_4 : lk_seg 21 [(.iconst 0, 1, (0, [], .int (0))), (.istore_n 3, 1, (0, [], .null)), (.iconst 1, 1, (0, [], .int (1))), (.aload_n 2, 1, (0, [], .null))] 0 = some 4 := by decide +kernel
theorem lk_i21_4 : lk_ins 21 4 = some (.arraylength, 1, (0, [], .null)) := lk_eqE_eq (by decide +kernel)
theorem lk_s21_5_2 : lk_seg 21 [(.isub, 1, (0, [], .null)), (.istore 4, 2, (0, [], .null))] 5 = some 8 := by decide +kernel
theorem lk_s21_8_2 : lk_seg 21 [(.iload 4, 2, (0, [], .null)), (.aload_n 1, 1, (0, [], .null))] 8 = some 11 := by decide +kernel
theorem lk_i21_11 : lk_ins 21 11 = some (.arraylength, 1, (0, [], .null)) := lk_eqE_eq (by decide +kernel)
theorem lk_i21_12 : lk_ins 21 12 = some (.if_icmp .ge 22, 3, (34, [], .null)) := lk_eqE_eq (by decide +kernel)
theorem lk_s21_34_1 : lk_seg 21 [(.iload_n 3, 1, (0, [], .null))] 34 = some 35 := by decide +kernel
theorem lk_i21_35 : lk_ins 21 35 = some (.ireturn, 1, (0, [], .null)) := lk_eqE_eq (by decide +kernel)
theorem lk_s21_15_5 : lk_seg 21 [(.iload_n 3, 1, (0, [], .null)), (.aload_n 0, 1, (0, [], .null)), (.aload_n 1, 1, (0, [], .null)), (.aload_n 2, 1, (0, [], .null)), (.iload 4, 2, (0, [], .null))] 15 = some 21 := by decide +kernel
theorem lk_i21_21 : lk_ins 21 21 = some (.invokevirtual 18, 3, (1, [(3, 23)], .ref 17)) := lk_eqE_eq (by decide +kernel)
theorem lk_i21_24 : lk_ins 21 24 = some (.invokestatic 22, 3, (102, [], .null)) := lk_eqE_eq (by decide +kernel)
theorem lk_s21_27_3 : lk_seg 21 [(.istore_n 3, 1, (0, [], .null)), (.iinc 4 1, 3, (0, [], .int (1))), (.goto (-23), 3, (8, [], .null))] 27 = some 8 := by decide +kernel
set_option maxRecDepth 20000 in
theorem E_mv_mostOfTwo {X : lk_X} {d : Nat} {a0 a1 a2 : Nat} {h : lk_H} {Q : Option Value → lk_H → Prop} (H : lk_al2 h a2 (fun r1 => lk_wp X (d + 1) 21 8 [.ref a0, .ref a1, .ref a2, .int 0, .int (1 - r1)] [] h Q)) : lk_wx X (d + 1) 21 [.ref a0, .ref a1, .ref a2] h Q := by
  refine lk_enter (lo := [.ref a0, .ref a1, .ref a2, .retAddr 0, .retAddr 0]) lk_M21 rfl (Nat.le_of_ble_eq_true rfl) ?_
  refine lk_wp_seg (lo' := [.ref a0, .ref a1, .ref a2, .int 0, .retAddr 0]) (st' := [.ref a2, .int 1]) lk_M21 lk_s21_0_4 rfl ?_
  refine lk_wp_al lk_i21_4 lk_M21 H (fun r1 H => ?_)
  refine lk_wp_seg (lo' := [.ref a0, .ref a1, .ref a2, .int 0, .int (1 - r1)]) (st' := []) lk_M21 lk_s21_5_2 rfl ?_
  exact H
set_option maxRecDepth 20000 in
theorem F_mv_mostOfTwo_8 {X : lk_X} {d : Nat} {x3 x4 : Int32} {a0 a1 a2 : Nat} {h : lk_H} {Q : Option Value → lk_H → Prop} (H : lk_al2 h a1 (fun r1 => (r1 ≤ x4 → Q (some (.int x3)) h) ∧ (¬ r1 ≤ x4 → lk_vc h a0 [(3, 23)] (fun k4 => lk_wxi X d k4 [.ref a0, .ref a1, .ref a2, .int x4] h (fun r3 h2 => lk_wp X (d + 1) 21 8 [.ref a0, .ref a1, .ref a2, .int (if x3 < r3 then r3 else x3), .int (x4 + 1)] [] h2 Q))))) : lk_wp X (d + 1) 21 8 [.ref a0, .ref a1, .ref a2, .int x3, .int x4] [] h Q := by
  refine lk_wp_seg (lo' := [.ref a0, .ref a1, .ref a2, .int x3, .int x4]) (st' := [.ref a1, .int x4]) lk_M21 lk_s21_8_2 rfl ?_
  refine lk_wp_al lk_i21_11 lk_M21 H (fun r1 H => ?_)
  refine lk_wp_ic_ge lk_i21_12 lk_M21 H (fun H => ?_) (fun H => ?_)
  · refine lk_wp_seg (lo' := [.ref a0, .ref a1, .ref a2, .int x3, .int x4]) (st' := [.int x3]) lk_M21 lk_s21_34_1 rfl ?_
    exact lk_wp_ret lk_i21_35 lk_M21 rfl H
  · refine lk_wp_seg (lo' := [.ref a0, .ref a1, .ref a2, .int x3, .int x4]) (st' := [.int x4, .ref a2, .ref a1, .ref a0, .int x3]) lk_M21 lk_s21_15_5 rfl ?_
    refine lk_wp_cv (as := [.ref a1, .ref a2, .int x4]) (r := [.int x3]) (a := a0) lk_i21_21 lk_M21 rfl rfl rfl (Nat.le_of_ble_eq_true rfl) H (fun k4 H => lk_gi H (fun r3 h2 H => ?_))
    refine lk_wp_max lk_i21_24 lk_M21 rfl rfl (Nat.le_of_ble_eq_true rfl) ?_
    refine lk_wp_seg (lo' := [.ref a0, .ref a1, .ref a2, .int (if x3 < r3 then r3 else x3), .int (x4 + 1)]) (st' := []) lk_M21 lk_s21_27_3 rfl ?_
    exact H
/-! LonelyDots$Moves.mostWithItself([I)I -/
theorem lk_M22 : lk_mt[22]? = some (yX3_mostWithItself, cX3_mostWithItself, 4, ((some FieldType.int))) := rfl
theorem lk_s22_0_4 : lk_seg 22 [(.iconst 0, 1, (0, [], .int (0))), (.istore_n 2, 1, (0, [], .null)), (.iconst 1, 1, (0, [], .int (1))), (.istore_n 3, 1, (0, [], .null))] 0 = some 4 := by decide +kernel
theorem lk_s22_4_2 : lk_seg 22 [(.iload_n 3, 1, (0, [], .null)), (.aload_n 1, 1, (0, [], .null))] 4 = some 6 := by decide +kernel
theorem lk_i22_6 : lk_ins 22 6 = some (.arraylength, 1, (0, [], .null)) := lk_eqE_eq (by decide +kernel)
theorem lk_i22_7 : lk_ins 22 7 = some (.if_icmp .ge 21, 3, (28, [], .null)) := lk_eqE_eq (by decide +kernel)
theorem lk_s22_28_1 : lk_seg 22 [(.iload_n 2, 1, (0, [], .null))] 28 = some 29 := by decide +kernel
theorem lk_i22_29 : lk_ins 22 29 = some (.ireturn, 1, (0, [], .null)) := lk_eqE_eq (by decide +kernel)
theorem lk_s22_10_5 : lk_seg 22 [(.iload_n 2, 1, (0, [], .null)), (.aload_n 0, 1, (0, [], .null)), (.aload_n 1, 1, (0, [], .null)), (.aload_n 1, 1, (0, [], .null)), (.iload_n 3, 1, (0, [], .null))] 10 = some 15 := by decide +kernel
theorem lk_i22_15 : lk_ins 22 15 = some (.invokevirtual 18, 3, (1, [(3, 23)], .ref 17)) := lk_eqE_eq (by decide +kernel)
theorem lk_i22_18 : lk_ins 22 18 = some (.invokestatic 22, 3, (102, [], .null)) := lk_eqE_eq (by decide +kernel)
theorem lk_s22_21_3 : lk_seg 22 [(.istore_n 2, 1, (0, [], .null)), (.iinc 3 1, 3, (0, [], .int (1))), (.goto (-21), 3, (4, [], .null))] 21 = some 4 := by decide +kernel
set_option maxRecDepth 20000 in
theorem E_mv_mostWithItself {X : lk_X} {d : Nat} {a0 a1 : Nat} {h : lk_H} {Q : Option Value → lk_H → Prop} (H : lk_wp X (d + 1) 22 4 [.ref a0, .ref a1, .int 0, .int 1] [] h Q) : lk_wx X (d + 1) 22 [.ref a0, .ref a1] h Q := by
  refine lk_enter (lo := [.ref a0, .ref a1, .retAddr 0, .retAddr 0]) lk_M22 rfl (Nat.le_of_ble_eq_true rfl) ?_
  refine lk_wp_seg (lo' := [.ref a0, .ref a1, .int 0, .int 1]) (st' := []) lk_M22 lk_s22_0_4 rfl ?_
  exact H
set_option maxRecDepth 20000 in
theorem F_mv_mostWithItself_4 {X : lk_X} {d : Nat} {x2 x3 : Int32} {a0 a1 : Nat} {h : lk_H} {Q : Option Value → lk_H → Prop} (H : lk_al2 h a1 (fun r1 => (r1 ≤ x3 → Q (some (.int x2)) h) ∧ (¬ r1 ≤ x3 → lk_vc h a0 [(3, 23)] (fun k4 => lk_wxi X d k4 [.ref a0, .ref a1, .ref a1, .int x3] h (fun r3 h2 => lk_wp X (d + 1) 22 4 [.ref a0, .ref a1, .int (if x2 < r3 then r3 else x2), .int (x3 + 1)] [] h2 Q))))) : lk_wp X (d + 1) 22 4 [.ref a0, .ref a1, .int x2, .int x3] [] h Q := by
  refine lk_wp_seg (lo' := [.ref a0, .ref a1, .int x2, .int x3]) (st' := [.ref a1, .int x3]) lk_M22 lk_s22_4_2 rfl ?_
  refine lk_wp_al lk_i22_6 lk_M22 H (fun r1 H => ?_)
  refine lk_wp_ic_ge lk_i22_7 lk_M22 H (fun H => ?_) (fun H => ?_)
  · refine lk_wp_seg (lo' := [.ref a0, .ref a1, .int x2, .int x3]) (st' := [.int x2]) lk_M22 lk_s22_28_1 rfl ?_
    exact lk_wp_ret lk_i22_29 lk_M22 rfl H
  · refine lk_wp_seg (lo' := [.ref a0, .ref a1, .int x2, .int x3]) (st' := [.int x3, .ref a1, .ref a1, .ref a0, .int x2]) lk_M22 lk_s22_10_5 rfl ?_
    refine lk_wp_cv (as := [.ref a1, .ref a1, .int x3]) (r := [.int x2]) (a := a0) lk_i22_15 lk_M22 rfl rfl rfl (Nat.le_of_ble_eq_true rfl) H (fun k4 H => lk_gi H (fun r3 h2 H => ?_))
    refine lk_wp_max lk_i22_18 lk_M22 rfl rfl (Nat.le_of_ble_eq_true rfl) ?_
    refine lk_wp_seg (lo' := [.ref a0, .ref a1, .int (if x2 < r3 then r3 else x2), .int (x3 + 1)]) (st' := []) lk_M22 lk_s22_21_3 rfl ?_
    exact H
/-! LonelyDots$Moves.mostMovedByRows([I[II)I -/
theorem lk_M23 : lk_mt[23]? = some (yX3_mostMovedByRows, cX3_mostMovedByRows, 8, ((some FieldType.int))) := rfl
theorem lk_s23_0_1 : lk_seg 23 [(.aload_n 0, 1, (0, [], .null))] 0 = some 1 := by decide +kernel
theorem lk_i23_1 : lk_ins 23 1 = some (.getfield 9, 3, (0, [(3, 0)], .null)) := lk_eqE_eq (by decide +kernel)
theorem lk_s23_4_1 : lk_seg 23 [(.iconst 0, 1, (0, [], .int (0)))] 4 = some 5 := by decide +kernel
theorem lk_i23_5 : lk_ins 23 5 = some (.invokestatic 28, 3, (0, [(0, 170)], .ref 18)) := lk_eqE_eq (by decide +kernel)
theorem lk_s23_8_4 : lk_seg 23 [(.iconst 0, 1, (0, [], .int (0))), (.istore 4, 2, (0, [], .null)), (.iconst 0, 1, (0, [], .int (0))), (.istore 5, 2, (0, [], .null))] 8 = some 14 := by decide +kernel
theorem lk_s23_14_2 : lk_seg 23 [(.iload 5, 2, (0, [], .null)), (.aload_n 2, 1, (0, [], .null))] 14 = some 17 := by decide +kernel
theorem lk_i23_17 : lk_ins 23 17 = some (.arraylength, 1, (0, [], .null)) := lk_eqE_eq (by decide +kernel)
theorem lk_i23_18 : lk_ins 23 18 = some (.if_icmp .ge 68, 3, (86, [], .null)) := lk_eqE_eq (by decide +kernel)
theorem lk_s23_86_1 : lk_seg 23 [(.iload 4, 2, (0, [], .null))] 86 = some 88 := by decide +kernel
theorem lk_i23_88 : lk_ins 23 88 = some (.ireturn, 1, (0, [], .null)) := lk_eqE_eq (by decide +kernel)
theorem lk_s23_21_5 : lk_seg 23 [(.iload 5, 2, (0, [], .null)), (.iload_n 3, 1, (0, [], .null)), (.iadd, 1, (0, [], .null)), (.istore 6, 2, (0, [], .null)), (.iload 6, 2, (0, [], .null))] 21 = some 29 := by decide +kernel
theorem lk_i23_29 : lk_ins 23 29 = some (.ifCond .lt 51, 3, (80, [], .null)) := lk_eqE_eq (by decide +kernel)
theorem lk_s23_80_2 : lk_seg 23 [(.iinc 5 1, 3, (0, [], .int (1))), (.goto (-69), 3, (14, [], .null))] 80 = some 14 := by decide +kernel
theorem lk_s23_32_2 : lk_seg 23 [(.iload 6, 2, (0, [], .null)), (.aload_n 1, 1, (0, [], .null))] 32 = some 35 := by decide +kernel
theorem lk_i23_35 : lk_ins 23 35 = some (.arraylength, 1, (0, [], .null)) := lk_eqE_eq (by decide +kernel)
theorem lk_i23_36 : lk_ins 23 36 = some (.if_icmp .ge 44, 3, (80, [], .null)) := lk_eqE_eq (by decide +kernel)
theorem lk_s23_39_2 : lk_seg 23 [(.aload_n 1, 1, (0, [], .null)), (.iload 6, 2, (0, [], .null))] 39 = some 42 := by decide +kernel
theorem lk_i23_42 : lk_ins 23 42 = some (.iaload, 1, (0, [], .null)) := lk_eqE_eq (by decide +kernel)
theorem lk_s23_43_2 : lk_seg 23 [(.aload_n 2, 1, (0, [], .null)), (.iload 5, 2, (0, [], .null))] 43 = some 46 := by decide +kernel
theorem lk_i23_46 : lk_ins 23 46 = some (.iaload, 1, (0, [], .null)) := lk_eqE_eq (by decide +kernel)
theorem lk_s23_47_7 : lk_seg 23 [(.isub, 1, (0, [], .null)), (.bipush 16, 2, (0, [], .int (16))), (.iadd, 1, (0, [], .null)), (.iconst 1, 1, (0, [], .int (1))), (.isub, 1, (0, [], .null)), (.istore 7, 2, (0, [], .null)), (.aload_n 0, 1, (0, [], .null))] 47 = some 56 := by decide +kernel
theorem lk_i23_56 : lk_ins 23 56 = some (.getfield 9, 3, (0, [(3, 0)], .null)) := lk_eqE_eq (by decide +kernel)
theorem lk_s23_59_2 : lk_seg 23 [(.iload 7, 2, (0, [], .null)), (.dup2, 1, (0, [], .null))] 59 = some 62 := by decide +kernel
theorem lk_i23_62 : lk_ins 23 62 = some (.iaload, 1, (0, [], .null)) := lk_eqE_eq (by decide +kernel)
theorem lk_s23_63_2 : lk_seg 23 [(.iconst 1, 1, (0, [], .int (1))), (.iadd, 1, (0, [], .null))] 63 = some 65 := by decide +kernel
theorem lk_i23_65 : lk_ins 23 65 = some (.iastore, 1, (0, [], .null)) := lk_eqE_eq (by decide +kernel)
theorem lk_s23_66_2 : lk_seg 23 [(.iload 4, 2, (0, [], .null)), (.aload_n 0, 1, (0, [], .null))] 66 = some 69 := by decide +kernel
theorem lk_i23_69 : lk_ins 23 69 = some (.getfield 9, 3, (0, [(3, 0)], .null)) := lk_eqE_eq (by decide +kernel)
theorem lk_s23_72_1 : lk_seg 23 [(.iload 7, 2, (0, [], .null))] 72 = some 74 := by decide +kernel
theorem lk_i23_74 : lk_ins 23 74 = some (.iaload, 1, (0, [], .null)) := lk_eqE_eq (by decide +kernel)
theorem lk_i23_75 : lk_ins 23 75 = some (.invokestatic 22, 3, (102, [], .null)) := lk_eqE_eq (by decide +kernel)
theorem lk_s23_78_3 : lk_seg 23 [(.istore 4, 2, (0, [], .null)), (.iinc 5 1, 3, (0, [], .int (1))), (.goto (-69), 3, (14, [], .null))] 78 = some 14 := by decide +kernel
set_option maxRecDepth 20000 in
theorem E_mv_mostMovedByRows {X : lk_X} {d : Nat} {x3 : Int32} {a0 a1 a2 : Nat} {h : lk_H} {Q : Option Value → lk_H → Prop} (H : lk_fR h a0 0 [(3, 0)] (fun r1 => lk_wxv X d 170 [.ref r1, .int 0] h (fun h2 => lk_wp X (d + 1) 23 14 [.ref a0, .ref a1, .ref a2, .int x3, .int 0, .int 0, .retAddr 0, .retAddr 0] [] h2 Q))) : lk_wx X (d + 1) 23 [.ref a0, .ref a1, .ref a2, .int x3] h Q := by
  refine lk_enter (lo := [.ref a0, .ref a1, .ref a2, .int x3, .retAddr 0, .retAddr 0, .retAddr 0, .retAddr 0]) lk_M23 rfl (Nat.le_of_ble_eq_true rfl) ?_
  refine lk_wp_seg (lo' := [.ref a0, .ref a1, .ref a2, .int x3, .retAddr 0, .retAddr 0, .retAddr 0, .retAddr 0]) (st' := [.ref a0]) lk_M23 lk_s23_0_1 rfl ?_
  refine lk_wp_fR lk_i23_1 lk_M23 H (fun r1 H => ?_)
  refine lk_wp_seg (lo' := [.ref a0, .ref a1, .ref a2, .int x3, .retAddr 0, .retAddr 0, .retAddr 0, .retAddr 0]) (st' := [.int 0, .ref r1]) lk_M23 lk_s23_4_1 rfl ?_
  refine lk_wp_cs (as := [.ref r1, .int 0]) (r := []) lk_i23_5 lk_M23 rfl rfl rfl rfl (Nat.le_of_ble_eq_true rfl) (lk_gv H (fun h2 H => ?_))
  refine lk_wp_seg (lo' := [.ref a0, .ref a1, .ref a2, .int x3, .int 0, .int 0, .retAddr 0, .retAddr 0]) (st' := []) lk_M23 lk_s23_8_4 rfl ?_
  exact H
set_option maxRecDepth 20000 in
theorem F_mv_mostMovedByRows_14 {X : lk_X} {d : Nat} {x3 x4 x5 : Int32} {a0 a1 a2 : Nat} {h : lk_H} {Q : Option Value → lk_H → Prop} (H : lk_al2 h a2 (fun r1 => (r1 ≤ x5 → Q (some (.int x4)) h) ∧ (¬ r1 ≤ x5 → ((x5 + x3) < 0 → lk_wp X (d + 1) 23 14 [.ref a0, .ref a1, .ref a2, .int x3, .int x4, .int (x5 + 1), .retAddr 0, .retAddr 0] [] h Q) ∧ (¬ (x5 + x3) < 0 → lk_al2 h a1 (fun r2 => (r2 ≤ (x5 + x3) → lk_wp X (d + 1) 23 14 [.ref a0, .ref a1, .ref a2, .int x3, .int x4, .int (x5 + 1), .retAddr 0, .retAddr 0] [] h Q) ∧ (¬ r2 ≤ (x5 + x3) → lk_ai h a1 (x5 + x3) (fun r3 => lk_ai h a2 x5 (fun r4 => lk_fR h a0 0 [(3, 0)] (fun r5 => lk_ai h r5 (((r3 - r4) + 16) - 1) (fun r6 => lk_as h r5 (((r3 - r4) + 16) - 1) (r6 + 1) (fun h7 => lk_fR h7 a0 0 [(3, 0)] (fun r8 => lk_ai h7 r8 (((r3 - r4) + 16) - 1) (fun r9 => lk_wp X (d + 1) 23 14 [.ref a0, .ref a1, .ref a2, .int x3, .int (if x4 < r9 then r9 else x4), .int (x5 + 1), .retAddr 0, .retAddr 0] [] h7 Q))))))))))))) : lk_wp X (d + 1) 23 14 [.ref a0, .ref a1, .ref a2, .int x3, .int x4, .int x5, .retAddr 0, .retAddr 0] [] h Q := by
  refine lk_wp_seg (lo' := [.ref a0, .ref a1, .ref a2, .int x3, .int x4, .int x5, .retAddr 0, .retAddr 0]) (st' := [.ref a2, .int x5]) lk_M23 lk_s23_14_2 rfl ?_
  refine lk_wp_al lk_i23_17 lk_M23 H (fun r1 H => ?_)
  refine lk_wp_ic_ge lk_i23_18 lk_M23 H (fun H => ?_) (fun H => ?_)
  · refine lk_wp_seg (lo' := [.ref a0, .ref a1, .ref a2, .int x3, .int x4, .int x5, .retAddr 0, .retAddr 0]) (st' := [.int x4]) lk_M23 lk_s23_86_1 rfl ?_
    exact lk_wp_ret lk_i23_88 lk_M23 rfl H
  · refine lk_wp_seg (lo' := [.ref a0, .ref a1, .ref a2, .int x3, .int x4, .int x5, .int (x5 + x3), .retAddr 0]) (st' := [.int (x5 + x3)]) lk_M23 lk_s23_21_5 rfl ?_
    refine lk_wp_if_lt lk_i23_29 lk_M23 H (fun H => ?_) (fun H => ?_)
    · refine lk_wp_seg (lo' := [.ref a0, .ref a1, .ref a2, .int x3, .int x4, .int (x5 + 1), .int (x5 + x3), .retAddr 0]) (st' := []) lk_M23 lk_s23_80_2 rfl ?_
      exact H.forget (lk_le_s (lk_le_s (lk_le_s (lk_le_s (lk_le_s (lk_le_s (lk_le_d (lk_le_s lk_le_n))))))))
    · refine lk_wp_seg (lo' := [.ref a0, .ref a1, .ref a2, .int x3, .int x4, .int x5, .int (x5 + x3), .retAddr 0]) (st' := [.ref a1, .int (x5 + x3)]) lk_M23 lk_s23_32_2 rfl ?_
      refine lk_wp_al lk_i23_35 lk_M23 H (fun r2 H => ?_)
      refine lk_wp_ic_ge lk_i23_36 lk_M23 H (fun H => ?_) (fun H => ?_)
      · refine lk_wp_seg (lo' := [.ref a0, .ref a1, .ref a2, .int x3, .int x4, .int (x5 + 1), .int (x5 + x3), .retAddr 0]) (st' := []) lk_M23 lk_s23_80_2 rfl ?_
        exact H.forget (lk_le_s (lk_le_s (lk_le_s (lk_le_s (lk_le_s (lk_le_s (lk_le_d (lk_le_s lk_le_n))))))))
      · refine lk_wp_seg (lo' := [.ref a0, .ref a1, .ref a2, .int x3, .int x4, .int x5, .int (x5 + x3), .retAddr 0]) (st' := [.int (x5 + x3), .ref a1]) lk_M23 lk_s23_39_2 rfl ?_
        refine lk_wp_ai lk_i23_42 lk_M23 H (fun r3 H => ?_)
        refine lk_wp_seg (lo' := [.ref a0, .ref a1, .ref a2, .int x3, .int x4, .int x5, .int (x5 + x3), .retAddr 0]) (st' := [.int x5, .ref a2, .int r3]) lk_M23 lk_s23_43_2 rfl ?_
        refine lk_wp_ai lk_i23_46 lk_M23 H (fun r4 H => ?_)
        refine lk_wp_seg (lo' := [.ref a0, .ref a1, .ref a2, .int x3, .int x4, .int x5, .int (x5 + x3), .int (((r3 - r4) + 16) - 1)]) (st' := [.ref a0]) lk_M23 lk_s23_47_7 rfl ?_
        refine lk_wp_fR lk_i23_56 lk_M23 H (fun r5 H => ?_)
        refine lk_wp_seg (lo' := [.ref a0, .ref a1, .ref a2, .int x3, .int x4, .int x5, .int (x5 + x3), .int (((r3 - r4) + 16) - 1)]) (st' := [.int (((r3 - r4) + 16) - 1), .ref r5, .int (((r3 - r4) + 16) - 1), .ref r5]) lk_M23 lk_s23_59_2 rfl ?_
        refine lk_wp_ai lk_i23_62 lk_M23 H (fun r6 H => ?_)
        refine lk_wp_seg (lo' := [.ref a0, .ref a1, .ref a2, .int x3, .int x4, .int x5, .int (x5 + x3), .int (((r3 - r4) + 16) - 1)]) (st' := [.int (r6 + 1), .int (((r3 - r4) + 16) - 1), .ref r5]) lk_M23 lk_s23_63_2 rfl ?_
        refine lk_wp_as lk_i23_65 lk_M23 H (fun h7 H => ?_)
        refine lk_wp_seg (lo' := [.ref a0, .ref a1, .ref a2, .int x3, .int x4, .int x5, .int (x5 + x3), .int (((r3 - r4) + 16) - 1)]) (st' := [.ref a0, .int x4]) lk_M23 lk_s23_66_2 rfl ?_
        refine lk_wp_fR lk_i23_69 lk_M23 H (fun r8 H => ?_)
        refine lk_wp_seg (lo' := [.ref a0, .ref a1, .ref a2, .int x3, .int x4, .int x5, .int (x5 + x3), .int (((r3 - r4) + 16) - 1)]) (st' := [.int (((r3 - r4) + 16) - 1), .ref r8, .int x4]) lk_M23 lk_s23_72_1 rfl ?_
        refine lk_wp_ai lk_i23_74 lk_M23 H (fun r9 H => ?_)
        refine lk_wp_max lk_i23_75 lk_M23 rfl rfl (Nat.le_of_ble_eq_true rfl) ?_
        refine lk_wp_seg (lo' := [.ref a0, .ref a1, .ref a2, .int x3, .int (if x4 < r9 then r9 else x4), .int (x5 + 1), .int (x5 + x3), .int (((r3 - r4) + 16) - 1)]) (st' := []) lk_M23 lk_s23_78_3 rfl ?_
        exact H.forget (lk_le_s (lk_le_s (lk_le_s (lk_le_s (lk_le_s (lk_le_s (lk_le_d (lk_le_d lk_le_n))))))))
/-! LonelyDots$Moves.partOfEcho(I[I[III)I -/
theorem lk_M24 : lk_mt[24]? = some (yX3_partOfEcho, cX3_partOfEcho, 7, ((some FieldType.int))) := rfl
theorem lk_s24_0_1 : lk_seg 24 [(.aload_n 0, 1, (0, [], .null))] 0 = some 1 := by decide +kernel
theorem lk_i24_1 : lk_ins 24 1 = some (.getfield 15, 3, (1, [(3, 0)], .null)) := lk_eqE_eq (by decide +kernel)
theorem lk_s24_4_1 : lk_seg 24 [(.iconst 0, 1, (0, [], .int (0)))] 4 = some 5 := by decide +kernel
theorem lk_i24_5 : lk_ins 24 5 = some (.invokestatic 28, 3, (0, [(0, 170)], .ref 18)) := lk_eqE_eq (by decide +kernel)
theorem lk_s24_8_2 : lk_seg 24 [(.iconst 0, 1, (0, [], .int (0))), (.istore 6, 2, (0, [], .null))] 8 = some 11 := by decide +kernel
theorem lk_s24_11_2 : lk_seg 24 [(.iload 6, 2, (0, [], .null)), (.iload 5, 2, (0, [], .null))] 11 = some 15 := by decide +kernel
theorem lk_i24_15 : lk_ins 24 15 = some (.if_icmp .ge 34, 3, (49, [], .null)) := lk_eqE_eq (by decide +kernel)
theorem lk_s24_49_1 : lk_seg 24 [(.aload_n 0, 1, (0, [], .null))] 49 = some 50 := by decide +kernel
theorem lk_i24_50 : lk_ins 24 50 = some (.invokevirtual 38, 3, (1, [(3, 26)], .ref 20)) := lk_eqE_eq (by decide +kernel)
theorem lk_s24_53_2 : lk_seg 24 [(.istore 6, 2, (0, [], .null)), (.iload_n 1, 1, (0, [], .null))] 53 = some 56 := by decide +kernel
theorem lk_i24_56 : lk_ins 24 56 = some (.lookupswitch 40 #[(0, 28), (1, 34)], 28, (96, [(0, 84), (1, 90)], .null)) := lk_eqE_eq (by decide +kernel)
theorem lk_s24_84_2 : lk_seg 24 [(.iload 6, 2, (0, [], .null)), (.bipush 21, 2, (0, [], .int (21)))] 84 = some 88 := by decide +kernel
theorem lk_i24_88 : lk_ins 24 88 = some (.idiv, 1, (0, [], .null)) := lk_eqE_eq (by decide +kernel)
theorem lk_i24_89 : lk_ins 24 89 = some (.ireturn, 1, (0, [], .null)) := lk_eqE_eq (by decide +kernel)
theorem lk_s24_90_2 : lk_seg 24 [(.iload 6, 2, (0, [], .null)), (.bipush 21, 2, (0, [], .int (21)))] 90 = some 94 := by decide +kernel
theorem lk_i24_94 : lk_ins 24 94 = some (.irem, 1, (0, [], .null)) := lk_eqE_eq (by decide +kernel)
theorem lk_i24_95 : lk_ins 24 95 = some (.ireturn, 1, (0, [], .null)) := lk_eqE_eq (by decide +kernel)
theorem lk_s24_96_1 : lk_seg 24 [(.aload_n 0, 1, (0, [], .null))] 96 = some 97 := by decide +kernel
theorem lk_i24_97 : lk_ins 24 97 = some (.getfield 15, 3, (1, [(3, 0)], .null)) := lk_eqE_eq (by decide +kernel)
theorem lk_s24_100_1 : lk_seg 24 [(.iload 6, 2, (0, [], .null))] 100 = some 102 := by decide +kernel
theorem lk_i24_102 : lk_ins 24 102 = some (.iaload, 1, (0, [], .null)) := lk_eqE_eq (by decide +kernel)
theorem lk_i24_103 : lk_ins 24 103 = some (.ireturn, 1, (0, [], .null)) := lk_eqE_eq (by decide +kernel)
theorem lk_s24_18_8 : lk_seg 24 [(.aload_n 0, 1, (0, [], .null)), (.aload_n 2, 1, (0, [], .null)), (.aload_n 3, 1, (0, [], .null)), (.iload 4, 2, (0, [], .null)), (.iconst 2, 1, (0, [], .int (2))), (.iload 6, 2, (0, [], .null)), (.imul, 1, (0, [], .null)), (.iadd, 1, (0, [], .null))] 18 = some 28 := by decide +kernel
theorem lk_i24_28 : lk_ins 24 28 = some (.iaload, 1, (0, [], .null)) := lk_eqE_eq (by decide +kernel)
theorem lk_s24_29_8 : lk_seg 24 [(.aload_n 3, 1, (0, [], .null)), (.iload 4, 2, (0, [], .null)), (.iconst 2, 1, (0, [], .int (2))), (.iload 6, 2, (0, [], .null)), (.imul, 1, (0, [], .null)), (.iadd, 1, (0, [], .null)), (.iconst 1, 1, (0, [], .int (1))), (.iadd, 1, (0, [], .null))] 29 = some 39 := by decide +kernel
theorem lk_i24_39 : lk_ins 24 39 = some (.iaload, 1, (0, [], .null)) := lk_eqE_eq (by decide +kernel)
theorem lk_i24_40 : lk_ins 24 40 = some (.invokevirtual 34, 3, (1, [(3, 25)], .ref 19)) := lk_eqE_eq (by decide +kernel)
theorem lk_s24_43_2 : lk_seg 24 [(.iinc 6 1, 3, (0, [], .int (1))), (.goto (-35), 3, (11, [], .null))] 43 = some 11 := by decide +kernel
set_option maxRecDepth 20000 in
theorem E_mv_partOfEcho {X : lk_X} {d : Nat} {x1 x4 x5 : Int32} {a0 a2 a3 : Nat} {h : lk_H} {Q : Option Value → lk_H → Prop} (H : lk_fR h a0 1 [(3, 0)] (fun r1 => lk_wxv X d 170 [.ref r1, .int 0] h (fun h2 => lk_wp X (d + 1) 24 11 [.ref a0, .int x1, .ref a2, .ref a3, .int x4, .int x5, .int 0] [] h2 Q))) : lk_wx X (d + 1) 24 [.ref a0, .int x1, .ref a2, .ref a3, .int x4, .int x5] h Q := by
  refine lk_enter (lo := [.ref a0, .int x1, .ref a2, .ref a3, .int x4, .int x5, .retAddr 0]) lk_M24 rfl (Nat.le_of_ble_eq_true rfl) ?_
  refine lk_wp_seg (lo' := [.ref a0, .int x1, .ref a2, .ref a3, .int x4, .int x5, .retAddr 0]) (st' := [.ref a0]) lk_M24 lk_s24_0_1 rfl ?_
  refine lk_wp_fR lk_i24_1 lk_M24 H (fun r1 H => ?_)
  refine lk_wp_seg (lo' := [.ref a0, .int x1, .ref a2, .ref a3, .int x4, .int x5, .retAddr 0]) (st' := [.int 0, .ref r1]) lk_M24 lk_s24_4_1 rfl ?_
  refine lk_wp_cs (as := [.ref r1, .int 0]) (r := []) lk_i24_5 lk_M24 rfl rfl rfl rfl (Nat.le_of_ble_eq_true rfl) (lk_gv H (fun h2 H => ?_))
  refine lk_wp_seg (lo' := [.ref a0, .int x1, .ref a2, .ref a3, .int x4, .int x5, .int 0]) (st' := []) lk_M24 lk_s24_8_2 rfl ?_
  exact H
set_option maxRecDepth 20000 in
theorem F_mv_partOfEcho_11 {X : lk_X} {d : Nat} {x1 x4 x5 x6 : Int32} {a0 a2 a3 : Nat} {h : lk_H} {Q : Option Value → lk_H → Prop} (H : (x5 ≤ x6 → lk_vc h a0 [(3, 26)] (fun k5 => lk_wxi X d k5 [.ref a0] h (fun r2 h1 => (x1 = Int32.ofNat 0 → ¬ (21 : Int32) = 0 ∧ (Q (some (.int (r2 / (21 : Int32)))) h1)) ∧ (¬ x1 = Int32.ofNat 0 → (x1 = Int32.ofNat 1 → ¬ (21 : Int32) = 0 ∧ (Q (some (.int (r2 - r2 / (21 : Int32) * (21 : Int32)))) h1)) ∧ (¬ x1 = Int32.ofNat 1 → lk_fR h1 a0 1 [(3, 0)] (fun r3 => lk_ai h1 r3 r2 (fun r4 => Q (some (.int r4)) h1))))))) ∧ (¬ x5 ≤ x6 → lk_ai h a3 (x4 + (2 * x6)) (fun r6 => lk_ai h a3 ((x4 + (2 * x6)) + 1) (fun r7 => lk_vc h a0 [(3, 25)] (fun k9 => lk_wxv X d k9 [.ref a0, .ref a2, .int r6, .int r7] h (fun h8 => lk_wp X (d + 1) 24 11 [.ref a0, .int x1, .ref a2, .ref a3, .int x4, .int x5, .int (x6 + 1)] [] h8 Q)))))) : lk_wp X (d + 1) 24 11 [.ref a0, .int x1, .ref a2, .ref a3, .int x4, .int x5, .int x6] [] h Q := by
  refine lk_wp_seg (lo' := [.ref a0, .int x1, .ref a2, .ref a3, .int x4, .int x5, .int x6]) (st' := [.int x5, .int x6]) lk_M24 lk_s24_11_2 rfl ?_
  refine lk_wp_ic_ge lk_i24_15 lk_M24 H (fun H => ?_) (fun H => ?_)
  · refine lk_wp_seg (lo' := [.ref a0, .int x1, .ref a2, .ref a3, .int x4, .int x5, .int x6]) (st' := [.ref a0]) lk_M24 lk_s24_49_1 rfl ?_
    refine lk_wp_cv (as := []) (r := []) (a := a0) lk_i24_50 lk_M24 rfl rfl rfl (Nat.le_of_ble_eq_true rfl) H (fun k5 H => lk_gi H (fun r2 h1 H => ?_))
    refine lk_wp_seg (lo' := [.ref a0, .int x1, .ref a2, .ref a3, .int x4, .int x5, .int r2]) (st' := [.int x1]) lk_M24 lk_s24_53_2 rfl ?_
    refine lk_wp_ls lk_i24_56 lk_M24 ?_
    refine lk_wp_swc H (fun H => ?_) (fun H => ?_)
    · refine lk_wp_seg (lo' := [.ref a0, .int x1, .ref a2, .ref a3, .int x4, .int x5, .int r2]) (st' := [.int 21, .int r2]) lk_M24 lk_s24_84_2 rfl ?_
      refine lk_wp_div lk_i24_88 lk_M24 H (fun H => ?_)
      exact lk_wp_ret lk_i24_89 lk_M24 rfl H
    · refine lk_wp_swc H (fun H => ?_) (fun H => ?_)
      · refine lk_wp_seg (lo' := [.ref a0, .int x1, .ref a2, .ref a3, .int x4, .int x5, .int r2]) (st' := [.int 21, .int r2]) lk_M24 lk_s24_90_2 rfl ?_
        refine lk_wp_rem lk_i24_94 lk_M24 H (fun H => ?_)
        exact lk_wp_ret lk_i24_95 lk_M24 rfl H
      · refine lk_wp_seg (lo' := [.ref a0, .int x1, .ref a2, .ref a3, .int x4, .int x5, .int r2]) (st' := [.ref a0]) lk_M24 lk_s24_96_1 rfl ?_
        refine lk_wp_fR lk_i24_97 lk_M24 H (fun r3 H => ?_)
        refine lk_wp_seg (lo' := [.ref a0, .int x1, .ref a2, .ref a3, .int x4, .int x5, .int r2]) (st' := [.int r2, .ref r3]) lk_M24 lk_s24_100_1 rfl ?_
        refine lk_wp_ai lk_i24_102 lk_M24 H (fun r4 H => ?_)
        exact lk_wp_ret lk_i24_103 lk_M24 rfl H
  · refine lk_wp_seg (lo' := [.ref a0, .int x1, .ref a2, .ref a3, .int x4, .int x5, .int x6]) (st' := [.int (x4 + (2 * x6)), .ref a3, .ref a2, .ref a0]) lk_M24 lk_s24_18_8 rfl ?_
    refine lk_wp_ai lk_i24_28 lk_M24 H (fun r6 H => ?_)
    refine lk_wp_seg (lo' := [.ref a0, .int x1, .ref a2, .ref a3, .int x4, .int x5, .int x6]) (st' := [.int ((x4 + (2 * x6)) + 1), .ref a3, .int r6, .ref a2, .ref a0]) lk_M24 lk_s24_29_8 rfl ?_
    refine lk_wp_ai lk_i24_39 lk_M24 H (fun r7 H => ?_)
    refine lk_wp_cv (as := [.ref a2, .int r6, .int r7]) (r := []) (a := a0) lk_i24_40 lk_M24 rfl rfl rfl (Nat.le_of_ble_eq_true rfl) H (fun k9 H => lk_gv H (fun h8 H => ?_))
    refine lk_wp_seg (lo' := [.ref a0, .int x1, .ref a2, .ref a3, .int x4, .int x5, .int (x6 + 1)]) (st' := []) lk_M24 lk_s24_43_2 rfl ?_
    exact H
/-! LonelyDots$Moves.tallyFits([III)V -/
theorem lk_M25 : lk_mt[25]? = some (yX3_tallyFits, cX3_tallyFits, 7, ((none))) := rfl
theorem lk_s25_0_2 : lk_seg 25 [(.iconst 0, 1, (0, [], .int (0))), (.istore 4, 2, (0, [], .null))] 0 = some 3 := by decide +kernel
theorem lk_s25_3_2 : lk_seg 25 [(.iload 4, 2, (0, [], .null)), (.aload_n 1, 1, (0, [], .null))] 3 = some 6 := by decide +kernel
theorem lk_i25_6 : lk_ins 25 6 = some (.arraylength, 1, (0, [], .null)) := lk_eqE_eq (by decide +kernel)
theorem lk_i25_7 : lk_ins 25 7 = some (.if_icmp .ge 64, 3, (71, [], .null)) := lk_eqE_eq (by decide +kernel)
theorem lk_i25_71 : lk_ins 25 71 = some (.return_, 1, (0, [], .null)) := lk_eqE_eq (by decide +kernel)
theorem lk_s25_10_7 : lk_seg 25 [(.iload_n 2, 1, (0, [], .null)), (.iload 4, 2, (0, [], .null)), (.isub, 1, (0, [], .null)), (.istore 5, 2, (0, [], .null)), (.iload_n 3, 1, (0, [], .null)), (.aload_n 1, 1, (0, [], .null)), (.iload 4, 2, (0, [], .null))] 10 = some 20 := by decide +kernel
theorem lk_i25_20 : lk_ins 25 20 = some (.iaload, 1, (0, [], .null)) := lk_eqE_eq (by decide +kernel)
theorem lk_s25_21_3 : lk_seg 25 [(.isub, 1, (0, [], .null)), (.istore 6, 2, (0, [], .null)), (.iload 5, 2, (0, [], .null))] 21 = some 26 := by decide +kernel
theorem lk_i25_26 : lk_ins 25 26 = some (.ifCond .lt 39, 3, (65, [], .null)) := lk_eqE_eq (by decide +kernel)
theorem lk_s25_65_2 : lk_seg 25 [(.iinc 4 1, 3, (0, [], .int (1))), (.goto (-65), 3, (3, [], .null))] 65 = some 3 := by decide +kernel
theorem lk_s25_29_2 : lk_seg 25 [(.iload 5, 2, (0, [], .null)), (.bipush 21, 2, (0, [], .int (21)))] 29 = some 33 := by decide +kernel
theorem lk_i25_33 : lk_ins 25 33 = some (.if_icmp .ge 32, 3, (65, [], .null)) := lk_eqE_eq (by decide +kernel)
theorem lk_s25_36_1 : lk_seg 25 [(.iload 6, 2, (0, [], .null))] 36 = some 38 := by decide +kernel
theorem lk_i25_38 : lk_ins 25 38 = some (.ifCond .lt 27, 3, (65, [], .null)) := lk_eqE_eq (by decide +kernel)
theorem lk_s25_41_2 : lk_seg 25 [(.iload 6, 2, (0, [], .null)), (.bipush 21, 2, (0, [], .int (21)))] 41 = some 45 := by decide +kernel
theorem lk_i25_45 : lk_ins 25 45 = some (.if_icmp .ge 20, 3, (65, [], .null)) := lk_eqE_eq (by decide +kernel)
theorem lk_s25_48_1 : lk_seg 25 [(.aload_n 0, 1, (0, [], .null))] 48 = some 49 := by decide +kernel
theorem lk_i25_49 : lk_ins 25 49 = some (.getfield 15, 3, (1, [(3, 0)], .null)) := lk_eqE_eq (by decide +kernel)
theorem lk_s25_52_6 : lk_seg 25 [(.iload 5, 2, (0, [], .null)), (.bipush 21, 2, (0, [], .int (21))), (.imul, 1, (0, [], .null)), (.iload 6, 2, (0, [], .null)), (.iadd, 1, (0, [], .null)), (.dup2, 1, (0, [], .null))] 52 = some 61 := by decide +kernel
theorem lk_i25_61 : lk_ins 25 61 = some (.iaload, 1, (0, [], .null)) := lk_eqE_eq (by decide +kernel)
theorem lk_s25_62_2 : lk_seg 25 [(.iconst 1, 1, (0, [], .int (1))), (.iadd, 1, (0, [], .null))] 62 = some 64 := by decide +kernel
theorem lk_i25_64 : lk_ins 25 64 = some (.iastore, 1, (0, [], .null)) := lk_eqE_eq (by decide +kernel)
set_option maxRecDepth 20000 in
theorem E_mv_tallyFits {X : lk_X} {d : Nat} {x2 x3 : Int32} {a0 a1 : Nat} {h : lk_H} {Q : Option Value → lk_H → Prop} (H : lk_wp X (d + 1) 25 3 [.ref a0, .ref a1, .int x2, .int x3, .int 0, .retAddr 0, .retAddr 0] [] h Q) : lk_wx X (d + 1) 25 [.ref a0, .ref a1, .int x2, .int x3] h Q := by
  refine lk_enter (lo := [.ref a0, .ref a1, .int x2, .int x3, .retAddr 0, .retAddr 0, .retAddr 0]) lk_M25 rfl (Nat.le_of_ble_eq_true rfl) ?_
  refine lk_wp_seg (lo' := [.ref a0, .ref a1, .int x2, .int x3, .int 0, .retAddr 0, .retAddr 0]) (st' := []) lk_M25 lk_s25_0_2 rfl ?_
  exact H
set_option maxRecDepth 20000 in
theorem F_mv_tallyFits_3 {X : lk_X} {d : Nat} {x2 x3 x4 : Int32} {a0 a1 : Nat} {h : lk_H} {Q : Option Value → lk_H → Prop} (H : lk_al2 h a1 (fun r1 => (r1 ≤ x4 → Q none h) ∧ (¬ r1 ≤ x4 → lk_ai h a1 x4 (fun r2 => ((x2 - x4) < 0 → lk_wp X (d + 1) 25 3 [.ref a0, .ref a1, .int x2, .int x3, .int (x4 + 1), .retAddr 0, .retAddr 0] [] h Q) ∧ (¬ (x2 - x4) < 0 → (21 ≤ (x2 - x4) → lk_wp X (d + 1) 25 3 [.ref a0, .ref a1, .int x2, .int x3, .int (x4 + 1), .retAddr 0, .retAddr 0] [] h Q) ∧ (¬ 21 ≤ (x2 - x4) → ((x3 - r2) < 0 → lk_wp X (d + 1) 25 3 [.ref a0, .ref a1, .int x2, .int x3, .int (x4 + 1), .retAddr 0, .retAddr 0] [] h Q) ∧ (¬ (x3 - r2) < 0 → (21 ≤ (x3 - r2) → lk_wp X (d + 1) 25 3 [.ref a0, .ref a1, .int x2, .int x3, .int (x4 + 1), .retAddr 0, .retAddr 0] [] h Q) ∧ (¬ 21 ≤ (x3 - r2) → lk_fR h a0 1 [(3, 0)] (fun r3 => lk_ai h r3 (((x2 - x4) * 21) + (x3 - r2)) (fun r4 => lk_as h r3 (((x2 - x4) * 21) + (x3 - r2)) (r4 + 1) (fun h5 => lk_wp X (d + 1) 25 3 [.ref a0, .ref a1, .int x2, .int x3, .int (x4 + 1), .retAddr 0, .retAddr 0] [] h5 Q))))))))))) : lk_wp X (d + 1) 25 3 [.ref a0, .ref a1, .int x2, .int x3, .int x4, .retAddr 0, .retAddr 0] [] h Q := by
  refine lk_wp_seg (lo' := [.ref a0, .ref a1, .int x2, .int x3, .int x4, .retAddr 0, .retAddr 0]) (st' := [.ref a1, .int x4]) lk_M25 lk_s25_3_2 rfl ?_
  refine lk_wp_al lk_i25_6 lk_M25 H (fun r1 H => ?_)
  refine lk_wp_ic_ge lk_i25_7 lk_M25 H (fun H => ?_) (fun H => ?_)
  · exact lk_wp_ret lk_i25_71 lk_M25 rfl H
  · refine lk_wp_seg (lo' := [.ref a0, .ref a1, .int x2, .int x3, .int x4, .int (x2 - x4), .retAddr 0]) (st' := [.int x4, .ref a1, .int x3]) lk_M25 lk_s25_10_7 rfl ?_
    refine lk_wp_ai lk_i25_20 lk_M25 H (fun r2 H => ?_)
    refine lk_wp_seg (lo' := [.ref a0, .ref a1, .int x2, .int x3, .int x4, .int (x2 - x4), .int (x3 - r2)]) (st' := [.int (x2 - x4)]) lk_M25 lk_s25_21_3 rfl ?_
    refine lk_wp_if_lt lk_i25_26 lk_M25 H (fun H => ?_) (fun H => ?_)
    · refine lk_wp_seg (lo' := [.ref a0, .ref a1, .int x2, .int x3, .int (x4 + 1), .int (x2 - x4), .int (x3 - r2)]) (st' := []) lk_M25 lk_s25_65_2 rfl ?_
      exact H.forget (lk_le_s (lk_le_s (lk_le_s (lk_le_s (lk_le_s (lk_le_d (lk_le_d lk_le_n)))))))
    · refine lk_wp_seg (lo' := [.ref a0, .ref a1, .int x2, .int x3, .int x4, .int (x2 - x4), .int (x3 - r2)]) (st' := [.int 21, .int (x2 - x4)]) lk_M25 lk_s25_29_2 rfl ?_
      refine lk_wp_ic_ge lk_i25_33 lk_M25 H (fun H => ?_) (fun H => ?_)
      · refine lk_wp_seg (lo' := [.ref a0, .ref a1, .int x2, .int x3, .int (x4 + 1), .int (x2 - x4), .int (x3 - r2)]) (st' := []) lk_M25 lk_s25_65_2 rfl ?_
        exact H.forget (lk_le_s (lk_le_s (lk_le_s (lk_le_s (lk_le_s (lk_le_d (lk_le_d lk_le_n)))))))
      · refine lk_wp_seg (lo' := [.ref a0, .ref a1, .int x2, .int x3, .int x4, .int (x2 - x4), .int (x3 - r2)]) (st' := [.int (x3 - r2)]) lk_M25 lk_s25_36_1 rfl ?_
        refine lk_wp_if_lt lk_i25_38 lk_M25 H (fun H => ?_) (fun H => ?_)
        · refine lk_wp_seg (lo' := [.ref a0, .ref a1, .int x2, .int x3, .int (x4 + 1), .int (x2 - x4), .int (x3 - r2)]) (st' := []) lk_M25 lk_s25_65_2 rfl ?_
          exact H.forget (lk_le_s (lk_le_s (lk_le_s (lk_le_s (lk_le_s (lk_le_d (lk_le_d lk_le_n)))))))
        · refine lk_wp_seg (lo' := [.ref a0, .ref a1, .int x2, .int x3, .int x4, .int (x2 - x4), .int (x3 - r2)]) (st' := [.int 21, .int (x3 - r2)]) lk_M25 lk_s25_41_2 rfl ?_
          refine lk_wp_ic_ge lk_i25_45 lk_M25 H (fun H => ?_) (fun H => ?_)
          · refine lk_wp_seg (lo' := [.ref a0, .ref a1, .int x2, .int x3, .int (x4 + 1), .int (x2 - x4), .int (x3 - r2)]) (st' := []) lk_M25 lk_s25_65_2 rfl ?_
            exact H.forget (lk_le_s (lk_le_s (lk_le_s (lk_le_s (lk_le_s (lk_le_d (lk_le_d lk_le_n)))))))
          · refine lk_wp_seg (lo' := [.ref a0, .ref a1, .int x2, .int x3, .int x4, .int (x2 - x4), .int (x3 - r2)]) (st' := [.ref a0]) lk_M25 lk_s25_48_1 rfl ?_
            refine lk_wp_fR lk_i25_49 lk_M25 H (fun r3 H => ?_)
            refine lk_wp_seg (lo' := [.ref a0, .ref a1, .int x2, .int x3, .int x4, .int (x2 - x4), .int (x3 - r2)]) (st' := [.int (((x2 - x4) * 21) + (x3 - r2)), .ref r3, .int (((x2 - x4) * 21) + (x3 - r2)), .ref r3]) lk_M25 lk_s25_52_6 rfl ?_
            refine lk_wp_ai lk_i25_61 lk_M25 H (fun r4 H => ?_)
            refine lk_wp_seg (lo' := [.ref a0, .ref a1, .int x2, .int x3, .int x4, .int (x2 - x4), .int (x3 - r2)]) (st' := [.int (r4 + 1), .int (((x2 - x4) * 21) + (x3 - r2)), .ref r3]) lk_M25 lk_s25_62_2 rfl ?_
            refine lk_wp_as lk_i25_64 lk_M25 H (fun h5 H => ?_)
            refine lk_wp_seg (lo' := [.ref a0, .ref a1, .int x2, .int x3, .int (x4 + 1), .int (x2 - x4), .int (x3 - r2)]) (st' := []) lk_M25 lk_s25_65_2 rfl ?_
            exact H.forget (lk_le_s (lk_le_s (lk_le_s (lk_le_s (lk_le_s (lk_le_d (lk_le_d lk_le_n)))))))
/-! LonelyDots$Moves.firstBest()I -/
theorem lk_M26 : lk_mt[26]? = some (yX3_firstBest, cX3_firstBest, 3, ((some FieldType.int))) := rfl
theorem lk_s26_0_4 : lk_seg 26 [(.iconst 0, 1, (0, [], .int (0))), (.istore_n 1, 1, (0, [], .null)), (.iconst 1, 1, (0, [], .int (1))), (.istore_n 2, 1, (0, [], .null))] 0 = some 4 := by decide +kernel
theorem lk_s26_4_2 : lk_seg 26 [(.iload_n 2, 1, (0, [], .null)), (.aload_n 0, 1, (0, [], .null))] 4 = some 6 := by decide +kernel
theorem lk_i26_6 : lk_ins 26 6 = some (.getfield 15, 3, (1, [(3, 0)], .null)) := lk_eqE_eq (by decide +kernel)
theorem lk_i26_9 : lk_ins 26 9 = some (.arraylength, 1, (0, [], .null)) := lk_eqE_eq (by decide +kernel)
theorem lk_i26_10 : lk_ins 26 10 = some (.if_icmp .ge 26, 3, (36, [], .null)) := lk_eqE_eq (by decide +kernel)
theorem lk_s26_36_1 : lk_seg 26 [(.iload_n 1, 1, (0, [], .null))] 36 = some 37 := by decide +kernel
theorem lk_i26_37 : lk_ins 26 37 = some (.ireturn, 1, (0, [], .null)) := lk_eqE_eq (by decide +kernel)
theorem lk_s26_13_1 : lk_seg 26 [(.aload_n 0, 1, (0, [], .null))] 13 = some 14 := by decide +kernel
theorem lk_i26_14 : lk_ins 26 14 = some (.getfield 15, 3, (1, [(3, 0)], .null)) := lk_eqE_eq (by decide +kernel)
theorem lk_s26_17_1 : lk_seg 26 [(.iload_n 2, 1, (0, [], .null))] 17 = some 18 := by decide +kernel
theorem lk_i26_18 : lk_ins 26 18 = some (.iaload, 1, (0, [], .null)) := lk_eqE_eq (by decide +kernel)
theorem lk_s26_19_1 : lk_seg 26 [(.aload_n 0, 1, (0, [], .null))] 19 = some 20 := by decide +kernel
theorem lk_i26_20 : lk_ins 26 20 = some (.getfield 15, 3, (1, [(3, 0)], .null)) := lk_eqE_eq (by decide +kernel)
theorem lk_s26_23_1 : lk_seg 26 [(.iload_n 1, 1, (0, [], .null))] 23 = some 24 := by decide +kernel
theorem lk_i26_24 : lk_ins 26 24 = some (.iaload, 1, (0, [], .null)) := lk_eqE_eq (by decide +kernel)
theorem lk_i26_25 : lk_ins 26 25 = some (.if_icmp .le 5, 3, (30, [], .null)) := lk_eqE_eq (by decide +kernel)
theorem lk_s26_30_2 : lk_seg 26 [(.iinc 2 1, 3, (0, [], .int (1))), (.goto (-29), 3, (4, [], .null))] 30 = some 4 := by decide +kernel
theorem lk_s26_28_4 : lk_seg 26 [(.iload_n 2, 1, (0, [], .null)), (.istore_n 1, 1, (0, [], .null)), (.iinc 2 1, 3, (0, [], .int (1))), (.goto (-29), 3, (4, [], .null))] 28 = some 4 := by decide +kernel
set_option maxRecDepth 20000 in
theorem E_mv_firstBest {X : lk_X} {d : Nat} {a0 : Nat} {h : lk_H} {Q : Option Value → lk_H → Prop} (H : lk_wp X (d + 1) 26 4 [.ref a0, .int 0, .int 1] [] h Q) : lk_wx X (d + 1) 26 [.ref a0] h Q := by
  refine lk_enter (lo := [.ref a0, .retAddr 0, .retAddr 0]) lk_M26 rfl (Nat.le_of_ble_eq_true rfl) ?_
  refine lk_wp_seg (lo' := [.ref a0, .int 0, .int 1]) (st' := []) lk_M26 lk_s26_0_4 rfl ?_
  exact H
set_option maxRecDepth 20000 in
theorem F_mv_firstBest_4 {X : lk_X} {d : Nat} {x1 x2 : Int32} {a0 : Nat} {h : lk_H} {Q : Option Value → lk_H → Prop} (H : lk_fR h a0 1 [(3, 0)] (fun r1 => lk_al2 h r1 (fun r2 => (r2 ≤ x2 → Q (some (.int x1)) h) ∧ (¬ r2 ≤ x2 → lk_fR h a0 1 [(3, 0)] (fun r3 => lk_ai h r3 x2 (fun r4 => lk_fR h a0 1 [(3, 0)] (fun r5 => lk_ai h r5 x1 (fun r6 => (r4 ≤ r6 → lk_wp X (d + 1) 26 4 [.ref a0, .int x1, .int (x2 + 1)] [] h Q) ∧ (¬ r4 ≤ r6 → lk_wp X (d + 1) 26 4 [.ref a0, .int x2, .int (x2 + 1)] [] h Q))))))))) : lk_wp X (d + 1) 26 4 [.ref a0, .int x1, .int x2] [] h Q := by
  refine lk_wp_seg (lo' := [.ref a0, .int x1, .int x2]) (st' := [.ref a0, .int x2]) lk_M26 lk_s26_4_2 rfl ?_
  refine lk_wp_fR lk_i26_6 lk_M26 H (fun r1 H => ?_)
  refine lk_wp_al lk_i26_9 lk_M26 H (fun r2 H => ?_)
  refine lk_wp_ic_ge lk_i26_10 lk_M26 H (fun H => ?_) (fun H => ?_)
  · refine lk_wp_seg (lo' := [.ref a0, .int x1, .int x2]) (st' := [.int x1]) lk_M26 lk_s26_36_1 rfl ?_
    exact lk_wp_ret lk_i26_37 lk_M26 rfl H
  · refine lk_wp_seg (lo' := [.ref a0, .int x1, .int x2]) (st' := [.ref a0]) lk_M26 lk_s26_13_1 rfl ?_
    refine lk_wp_fR lk_i26_14 lk_M26 H (fun r3 H => ?_)
    refine lk_wp_seg (lo' := [.ref a0, .int x1, .int x2]) (st' := [.int x2, .ref r3]) lk_M26 lk_s26_17_1 rfl ?_
    refine lk_wp_ai lk_i26_18 lk_M26 H (fun r4 H => ?_)
    refine lk_wp_seg (lo' := [.ref a0, .int x1, .int x2]) (st' := [.ref a0, .int r4]) lk_M26 lk_s26_19_1 rfl ?_
    refine lk_wp_fR lk_i26_20 lk_M26 H (fun r5 H => ?_)
    refine lk_wp_seg (lo' := [.ref a0, .int x1, .int x2]) (st' := [.int x1, .ref r5, .int r4]) lk_M26 lk_s26_23_1 rfl ?_
    refine lk_wp_ai lk_i26_24 lk_M26 H (fun r6 H => ?_)
    refine lk_wp_ic_le lk_i26_25 lk_M26 H (fun H => ?_) (fun H => ?_)
    · refine lk_wp_seg (lo' := [.ref a0, .int x1, .int (x2 + 1)]) (st' := []) lk_M26 lk_s26_30_2 rfl ?_
      exact H
    · refine lk_wp_seg (lo' := [.ref a0, .int x2, .int (x2 + 1)]) (st' := []) lk_M26 lk_s26_28_4 rfl ?_
      exact H
/-! LonelyDots$Order.<init>([I)V -/
theorem lk_M27 : lk_mt[27]? = some (yX4_init, cX4_init, 2, ((none))) := rfl
theorem lk_s27_0_2 : lk_seg 27 [(.aload_n 0, 1, (0, [], .null)), (.aload_n 1, 1, (0, [], .null))] 0 = some 2 := by decide +kernel
theorem lk_i27_2 : lk_ins 27 2 = some (.invokespecial 3, 3, (3, [(0, 55)], .ref 10)) := lk_eqE_eq (by decide +kernel)
theorem lk_i27_5 : lk_ins 27 5 = some (.return_, 1, (0, [], .null)) := lk_eqE_eq (by decide +kernel)
set_option maxRecDepth 20000 in
theorem E_o_init {X : lk_X} {d : Nat} {a0 a1 : Nat} {h : lk_H} {Q : Option Value → lk_H → Prop} (H : lk_ob h a0 (lk_wxv X d 55 [.ref a0, .ref a1] h (fun h1 => Q none h1))) : lk_wx X (d + 1) 27 [.ref a0, .ref a1] h Q := by
  refine lk_enter (lo := [.ref a0, .ref a1]) lk_M27 rfl (Nat.le_of_ble_eq_true rfl) ?_
  refine lk_wp_seg (lo' := [.ref a0, .ref a1]) (st' := [.ref a1, .ref a0]) lk_M27 lk_s27_0_2 rfl ?_
  refine lk_wp_cp (as := [.ref a1]) (r := []) (a := a0) lk_i27_2 lk_M27 rfl rfl rfl rfl (Nat.le_of_ble_eq_true rfl) H (fun H => lk_gv H (fun h1 H => ?_))
  exact lk_wp_ret lk_i27_5 lk_M27 rfl H
/-! LonelyDots$Order.told([I)LLonelyDots$Order; -/
theorem lk_M28 : lk_mt[28]? = some (yX4_told, cX4_told, 2, ((some (FieldType.object "LonelyDots$Order")))) := rfl
theorem lk_i28_0 : lk_ins 28 0 = some (.new 9, 3, (4, [], .null)) := lk_eqE_eq (by decide +kernel)
theorem lk_s28_3_2 : lk_seg 28 [(.dup, 1, (0, [], .null)), (.aload_n 0, 1, (0, [], .null))] 3 = some 5 := by decide +kernel
theorem lk_i28_5 : lk_ins 28 5 = some (.invokespecial 11, 3, (3, [(0, 27)], .ref 0)) := lk_eqE_eq (by decide +kernel)
theorem lk_s28_8_3 : lk_seg 28 [(.astore_n 1, 1, (0, [], .null)), (.aload_n 1, 1, (0, [], .null)), (.iconst 0, 1, (0, [], .int (0)))] 8 = some 11 := by decide +kernel
theorem lk_i28_11 : lk_ins 28 11 = some (.invokevirtual 12, 3, (2, [(0, 58), (4, 58)], .ref 21)) := lk_eqE_eq (by decide +kernel)
theorem lk_s28_14_1 : lk_seg 28 [(.ldc 16, 2, (0, [], .int (-1000000)))] 14 = some 16 := by decide +kernel
theorem lk_i28_16 : lk_ins 28 16 = some (.if_icmp .ne 14, 3, (30, [], .null)) := lk_eqE_eq (by decide +kernel)
theorem lk_s28_30_1 : lk_seg 28 [(.aload_n 1, 1, (0, [], .null))] 30 = some 31 := by decide +kernel
theorem lk_i28_31 : lk_ins 28 31 = some (.areturn, 1, (0, [], .null)) := lk_eqE_eq (by decide +kernel)
theorem lk_i28_19 : lk_ins 28 19 = some (.new 17, 3, (0, [], .null)) := lk_eqE_eq (by decide +kernel)
theorem lk_s28_22_2 : lk_seg 28 [(.dup, 1, (0, [], .null)), (.aload_n 0, 1, (0, [], .null))] 22 = some 24 := by decide +kernel
theorem lk_i28_24 : lk_ins 28 24 = some (.invokespecial 19, 3, (3, [(0, 0)], .ref 22)) := lk_eqE_eq (by decide +kernel)
theorem lk_s28_27_1 : lk_seg 28 [(.goto 4, 3, (31, [], .null))] 27 = some 31 := by decide +kernel
set_option maxRecDepth 20000 in
theorem E_o_told {X : lk_X} {d : Nat} {a0 : Nat} {h : lk_H} {Q : Option Value → lk_H → Prop} (H : lk_ob ((h ++ [.inr (4, [.null])])) h.length (lk_wxv X d 27 [.ref (h.length), .ref a0] ((h ++ [.inr (4, [.null])])) (fun h1 => lk_vc h1 h.length [(0, 58), (4, 58)] (fun k5 => lk_wxi X d k5 [.ref (h.length), .int 0] h1 (fun r3 h2 => (¬ r3 = (-1000000) → Q (some (.ref (h.length))) h2) ∧ (r3 = (-1000000) → lk_ob ((h2 ++ [.inr (0, [.null])])) h2.length (lk_wxv X d 0 [.ref (h2.length), .ref a0] ((h2 ++ [.inr (0, [.null])])) (fun h4 => Q (some (.ref (h2.length))) h4)))))))) : lk_wx X (d + 1) 28 [.ref a0] h Q := by
  refine lk_enter (lo := [.ref a0, .retAddr 0]) lk_M28 rfl (Nat.le_of_ble_eq_true rfl) ?_
  refine lk_wp_new lk_i28_0 lk_M28 rfl ?_
  refine lk_wp_seg (lo' := [.ref a0, .retAddr 0]) (st' := [.ref a0, .ref (h.length), .ref (h.length)]) lk_M28 lk_s28_3_2 rfl ?_
  refine lk_wp_cp (as := [.ref a0]) (r := [.ref (h.length)]) (a := h.length) lk_i28_5 lk_M28 rfl rfl rfl rfl (Nat.le_of_ble_eq_true rfl) H (fun H => lk_gv H (fun h1 H => ?_))
  refine lk_wp_seg (lo' := [.ref a0, .ref (h.length)]) (st' := [.int 0, .ref (h.length)]) lk_M28 lk_s28_8_3 rfl ?_
  refine lk_wp_cv (as := [.int 0]) (r := []) (a := h.length) lk_i28_11 lk_M28 rfl rfl rfl (Nat.le_of_ble_eq_true rfl) H (fun k5 H => lk_gi H (fun r3 h2 H => ?_))
  refine lk_wp_seg (lo' := [.ref a0, .ref (h.length)]) (st' := [.int ((-1000000)), .int r3]) lk_M28 lk_s28_14_1 rfl ?_
  refine lk_wp_ic_ne lk_i28_16 lk_M28 H (fun H => ?_) (fun H => ?_)
  · refine lk_wp_seg (lo' := [.ref a0, .ref (h.length)]) (st' := [.ref (h.length)]) lk_M28 lk_s28_30_1 rfl ?_
    exact lk_wp_ret lk_i28_31 lk_M28 rfl H
  · refine lk_wp_new lk_i28_19 lk_M28 rfl ?_
    refine lk_wp_seg (lo' := [.ref a0, .ref (h.length)]) (st' := [.ref a0, .ref (h2.length), .ref (h2.length)]) lk_M28 lk_s28_22_2 rfl ?_
    refine lk_wp_cp (as := [.ref a0]) (r := [.ref (h2.length)]) (a := h2.length) lk_i28_24 lk_M28 rfl rfl rfl rfl (Nat.le_of_ble_eq_true rfl) H (fun H => lk_gv H (fun h4 H => ?_))
    refine lk_wp_seg (lo' := [.ref a0, .ref (h.length)]) (st' := [.ref (h2.length)]) lk_M28 lk_s28_27_1 rfl ?_
    exact lk_wp_ret lk_i28_31 lk_M28 rfl H
/-! LonelyDots$Order.hasEachColumnOnce([I)Z -/
theorem lk_M29 : lk_mt[29]? = some (yX4_hasEachColumnOnce, cX4_hasEachColumnOnce, 6, ((some FieldType.boolean))) := rfl
theorem lk_s29_0_5 : lk_seg 29 [(.iconst 0, 1, (0, [], .int (0))), (.istore_n 1, 1, (0, [], .null)), (.aload_n 0, 1, (0, [], .null)), (.astore_n 2, 1, (0, [], .null)), (.aload_n 2, 1, (0, [], .null))] 0 = some 5 := by decide +kernel
theorem lk_i29_5 : lk_ins 29 5 = some (.arraylength, 1, (0, [], .null)) := lk_eqE_eq (by decide +kernel)
theorem lk_s29_6_3 : lk_seg 29 [(.istore_n 3, 1, (0, [], .null)), (.iconst 0, 1, (0, [], .int (0))), (.istore 4, 2, (0, [], .null))] 6 = some 10 := by decide +kernel
theorem lk_s29_10_2 : lk_seg 29 [(.iload 4, 2, (0, [], .null)), (.iload_n 3, 1, (0, [], .null))] 10 = some 13 := by decide +kernel
theorem lk_i29_13 : lk_ins 29 13 = some (.if_icmp .ge 45, 3, (58, [], .null)) := lk_eqE_eq (by decide +kernel)
theorem lk_s29_58_1 : lk_seg 29 [(.iconst 1, 1, (0, [], .int (1)))] 58 = some 59 := by decide +kernel
theorem lk_i29_59 : lk_ins 29 59 = some (.ireturn, 1, (0, [], .null)) := lk_eqE_eq (by decide +kernel)
theorem lk_s29_16_2 : lk_seg 29 [(.aload_n 2, 1, (0, [], .null)), (.iload 4, 2, (0, [], .null))] 16 = some 19 := by decide +kernel
theorem lk_i29_19 : lk_ins 29 19 = some (.iaload, 1, (0, [], .null)) := lk_eqE_eq (by decide +kernel)
theorem lk_s29_20_2 : lk_seg 29 [(.istore 5, 2, (0, [], .null)), (.iload 5, 2, (0, [], .null))] 20 = some 24 := by decide +kernel
theorem lk_i29_24 : lk_ins 29 24 = some (.ifCond .lt 19, 3, (43, [], .null)) := lk_eqE_eq (by decide +kernel)
theorem lk_s29_43_1 : lk_seg 29 [(.iconst 0, 1, (0, [], .int (0)))] 43 = some 44 := by decide +kernel
theorem lk_i29_44 : lk_ins 29 44 = some (.ireturn, 1, (0, [], .null)) := lk_eqE_eq (by decide +kernel)
theorem lk_s29_27_2 : lk_seg 29 [(.iload 5, 2, (0, [], .null)), (.aload_n 0, 1, (0, [], .null))] 27 = some 30 := by decide +kernel
theorem lk_i29_30 : lk_ins 29 30 = some (.arraylength, 1, (0, [], .null)) := lk_eqE_eq (by decide +kernel)
theorem lk_i29_31 : lk_ins 29 31 = some (.if_icmp .ge 12, 3, (43, [], .null)) := lk_eqE_eq (by decide +kernel)
theorem lk_s29_34_5 : lk_seg 29 [(.iload_n 1, 1, (0, [], .null)), (.iload 5, 2, (0, [], .null)), (.ishr, 1, (0, [], .null)), (.iconst 1, 1, (0, [], .int (1))), (.iand, 1, (0, [], .null))] 34 = some 40 := by decide +kernel
theorem lk_i29_40 : lk_ins 29 40 = some (.ifCond .eq 5, 3, (45, [], .null)) := lk_eqE_eq (by decide +kernel)
theorem lk_s29_45_8 : lk_seg 29 [(.iload_n 1, 1, (0, [], .null)), (.iconst 1, 1, (0, [], .int (1))), (.iload 5, 2, (0, [], .null)), (.ishl, 1, (0, [], .null)), (.ior, 1, (0, [], .null)), (.istore_n 1, 1, (0, [], .null)), (.iinc 4 1, 3, (0, [], .int (1))), (.goto (-45), 3, (10, [], .null))] 45 = some 10 := by decide +kernel
set_option maxRecDepth 20000 in
theorem E_o_hasEachColumnOnce {X : lk_X} {d : Nat} {a0 : Nat} {h : lk_H} {Q : Option Value → lk_H → Prop} (H : lk_al2 h a0 (fun r1 => lk_wp X (d + 1) 29 10 [.ref a0, .int 0, .ref a0, .int r1, .int 0, .retAddr 0] [] h Q)) : lk_wx X (d + 1) 29 [.ref a0] h Q := by
  refine lk_enter (lo := [.ref a0, .retAddr 0, .retAddr 0, .retAddr 0, .retAddr 0, .retAddr 0]) lk_M29 rfl (Nat.le_of_ble_eq_true rfl) ?_
  refine lk_wp_seg (lo' := [.ref a0, .int 0, .ref a0, .retAddr 0, .retAddr 0, .retAddr 0]) (st' := [.ref a0]) lk_M29 lk_s29_0_5 rfl ?_
  refine lk_wp_al lk_i29_5 lk_M29 H (fun r1 H => ?_)
  refine lk_wp_seg (lo' := [.ref a0, .int 0, .ref a0, .int r1, .int 0, .retAddr 0]) (st' := []) lk_M29 lk_s29_6_3 rfl ?_
  exact H
set_option maxRecDepth 20000 in
theorem F_o_hasEachColumnOnce_10 {X : lk_X} {d : Nat} {x1 x3 x4 : Int32} {a0 a2 : Nat} {h : lk_H} {Q : Option Value → lk_H → Prop} (H : (x3 ≤ x4 → Q (some (.int 1)) h) ∧ (¬ x3 ≤ x4 → lk_ai h a2 x4 (fun r1 => (r1 < 0 → Q (some (.int 0)) h) ∧ (¬ r1 < 0 → lk_al2 h a0 (fun r2 => (r2 ≤ r1 → Q (some (.int 0)) h) ∧ (¬ r2 ≤ r1 → (((x1 >>> (r1 &&& 31)) &&& 1) = 0 → lk_wp X (d + 1) 29 10 [.ref a0, .int (x1 ||| (1 <<< (r1 &&& 31))), .ref a2, .int x3, .int (x4 + 1), .retAddr 0] [] h Q) ∧ (¬ ((x1 >>> (r1 &&& 31)) &&& 1) = 0 → Q (some (.int 0)) h))))))) : lk_wp X (d + 1) 29 10 [.ref a0, .int x1, .ref a2, .int x3, .int x4, .retAddr 0] [] h Q := by
  refine lk_wp_seg (lo' := [.ref a0, .int x1, .ref a2, .int x3, .int x4, .retAddr 0]) (st' := [.int x3, .int x4]) lk_M29 lk_s29_10_2 rfl ?_
  refine lk_wp_ic_ge lk_i29_13 lk_M29 H (fun H => ?_) (fun H => ?_)
  · refine lk_wp_seg (lo' := [.ref a0, .int x1, .ref a2, .int x3, .int x4, .retAddr 0]) (st' := [.int 1]) lk_M29 lk_s29_58_1 rfl ?_
    exact lk_wp_ret lk_i29_59 lk_M29 rfl H
  · refine lk_wp_seg (lo' := [.ref a0, .int x1, .ref a2, .int x3, .int x4, .retAddr 0]) (st' := [.int x4, .ref a2]) lk_M29 lk_s29_16_2 rfl ?_
    refine lk_wp_ai lk_i29_19 lk_M29 H (fun r1 H => ?_)
    refine lk_wp_seg (lo' := [.ref a0, .int x1, .ref a2, .int x3, .int x4, .int r1]) (st' := [.int r1]) lk_M29 lk_s29_20_2 rfl ?_
    refine lk_wp_if_lt lk_i29_24 lk_M29 H (fun H => ?_) (fun H => ?_)
    · refine lk_wp_seg (lo' := [.ref a0, .int x1, .ref a2, .int x3, .int x4, .int r1]) (st' := [.int 0]) lk_M29 lk_s29_43_1 rfl ?_
      exact lk_wp_ret lk_i29_44 lk_M29 rfl H
    · refine lk_wp_seg (lo' := [.ref a0, .int x1, .ref a2, .int x3, .int x4, .int r1]) (st' := [.ref a0, .int r1]) lk_M29 lk_s29_27_2 rfl ?_
      refine lk_wp_al lk_i29_30 lk_M29 H (fun r2 H => ?_)
      refine lk_wp_ic_ge lk_i29_31 lk_M29 H (fun H => ?_) (fun H => ?_)
      · refine lk_wp_seg (lo' := [.ref a0, .int x1, .ref a2, .int x3, .int x4, .int r1]) (st' := [.int 0]) lk_M29 lk_s29_43_1 rfl ?_
        exact lk_wp_ret lk_i29_44 lk_M29 rfl H
      · refine lk_wp_seg (lo' := [.ref a0, .int x1, .ref a2, .int x3, .int x4, .int r1]) (st' := [.int ((x1 >>> (r1 &&& 31)) &&& 1)]) lk_M29 lk_s29_34_5 rfl ?_
        refine lk_wp_if_eq lk_i29_40 lk_M29 H (fun H => ?_) (fun H => ?_)
        · refine lk_wp_seg (lo' := [.ref a0, .int (x1 ||| (1 <<< (r1 &&& 31))), .ref a2, .int x3, .int (x4 + 1), .int r1]) (st' := []) lk_M29 lk_s29_45_8 rfl ?_
          exact H.forget (lk_le_s (lk_le_s (lk_le_s (lk_le_s (lk_le_s (lk_le_d lk_le_n))))))
        · refine lk_wp_seg (lo' := [.ref a0, .int x1, .ref a2, .int x3, .int x4, .int r1]) (st' := [.int 0]) lk_M29 lk_s29_43_1 rfl ?_
          exact lk_wp_ret lk_i29_44 lk_M29 rfl H
/-! LonelyDots$Order.turnInto([I[II)V -/
theorem lk_M30 : lk_mt[30]? = some (yX4_turnInto, cX4_turnInto, 7, ((none))) := rfl
theorem lk_s30_0_1 : lk_seg 30 [(.aload_n 1, 1, (0, [], .null))] 0 = some 1 := by decide +kernel
theorem lk_i30_1 : lk_ins 30 1 = some (.arraylength, 1, (0, [], .null)) := lk_eqE_eq (by decide +kernel)
theorem lk_s30_2_5 : lk_seg 30 [(.iconst 1, 1, (0, [], .int (1))), (.isub, 1, (0, [], .null)), (.istore_n 3, 1, (0, [], .null)), (.iconst 0, 1, (0, [], .int (0))), (.istore 4, 2, (0, [], .null))] 2 = some 8 := by decide +kernel
theorem lk_s30_8_2 : lk_seg 30 [(.iload 4, 2, (0, [], .null)), (.aload_n 1, 1, (0, [], .null))] 8 = some 11 := by decide +kernel
theorem lk_i30_11 : lk_ins 30 11 = some (.arraylength, 1, (0, [], .null)) := lk_eqE_eq (by decide +kernel)
theorem lk_i30_12 : lk_ins 30 12 = some (.if_icmp .ge 68, 3, (80, [], .null)) := lk_eqE_eq (by decide +kernel)
theorem lk_i30_80 : lk_ins 30 80 = some (.return_, 1, (0, [], .null)) := lk_eqE_eq (by decide +kernel)
theorem lk_s30_15_3 : lk_seg 30 [(.iload_n 2, 1, (0, [], .null)), (.iconst 1, 1, (0, [], .int (1))), (.iand, 1, (0, [], .null))] 15 = some 18 := by decide +kernel
theorem lk_i30_18 : lk_ins 30 18 = some (.ifCond .eq 10, 3, (28, [], .null)) := lk_eqE_eq (by decide +kernel)
theorem lk_s30_28_5 : lk_seg 30 [(.iload 4, 2, (0, [], .null)), (.istore 5, 2, (0, [], .null)), (.iload_n 2, 1, (0, [], .null)), (.iconst 2, 1, (0, [], .int (2))), (.iand, 1, (0, [], .null))] 28 = some 35 := by decide +kernel
theorem lk_i30_35 : lk_ins 30 35 = some (.ifCond .eq 12, 3, (47, [], .null)) := lk_eqE_eq (by decide +kernel)
theorem lk_s30_47_2 : lk_seg 30 [(.aload_n 1, 1, (0, [], .null)), (.iload 4, 2, (0, [], .null))] 47 = some 50 := by decide +kernel
theorem lk_i30_50 : lk_ins 30 50 = some (.iaload, 1, (0, [], .null)) := lk_eqE_eq (by decide +kernel)
theorem lk_s30_51_4 : lk_seg 30 [(.istore 6, 2, (0, [], .null)), (.iload_n 2, 1, (0, [], .null)), (.iconst 4, 1, (0, [], .int (4))), (.iand, 1, (0, [], .null))] 51 = some 56 := by decide +kernel
theorem lk_i30_56 : lk_ins 30 56 = some (.ifCond .eq 12, 3, (68, [], .null)) := lk_eqE_eq (by decide +kernel)
theorem lk_s30_68_3 : lk_seg 30 [(.aload_n 0, 1, (0, [], .null)), (.iload 5, 2, (0, [], .null)), (.iload 6, 2, (0, [], .null))] 68 = some 73 := by decide +kernel
theorem lk_i30_73 : lk_ins 30 73 = some (.iastore, 1, (0, [], .null)) := lk_eqE_eq (by decide +kernel)
theorem lk_s30_74_2 : lk_seg 30 [(.iinc 4 1, 3, (0, [], .int (1))), (.goto (-69), 3, (8, [], .null))] 74 = some 8 := by decide +kernel
theorem lk_s30_59_3 : lk_seg 30 [(.aload_n 0, 1, (0, [], .null)), (.iload 6, 2, (0, [], .null)), (.iload 5, 2, (0, [], .null))] 59 = some 64 := by decide +kernel
theorem lk_i30_64 : lk_ins 30 64 = some (.iastore, 1, (0, [], .null)) := lk_eqE_eq (by decide +kernel)
theorem lk_s30_65_1 : lk_seg 30 [(.goto 9, 3, (74, [], .null))] 65 = some 74 := by decide +kernel
theorem lk_s30_38_3 : lk_seg 30 [(.iload_n 3, 1, (0, [], .null)), (.aload_n 1, 1, (0, [], .null)), (.iload 4, 2, (0, [], .null))] 38 = some 42 := by decide +kernel
theorem lk_i30_42 : lk_ins 30 42 = some (.iaload, 1, (0, [], .null)) := lk_eqE_eq (by decide +kernel)
theorem lk_s30_43_2 : lk_seg 30 [(.isub, 1, (0, [], .null)), (.goto 7, 3, (51, [], .null))] 43 = some 51 := by decide +kernel
theorem lk_s30_21_4 : lk_seg 30 [(.iload_n 3, 1, (0, [], .null)), (.iload 4, 2, (0, [], .null)), (.isub, 1, (0, [], .null)), (.goto 5, 3, (30, [], .null))] 21 = some 30 := by decide +kernel
theorem lk_s30_30_4 : lk_seg 30 [(.istore 5, 2, (0, [], .null)), (.iload_n 2, 1, (0, [], .null)), (.iconst 2, 1, (0, [], .int (2))), (.iand, 1, (0, [], .null))] 30 = some 35 := by decide +kernel
set_option maxRecDepth 20000 in
theorem E_o_turnInto {X : lk_X} {d : Nat} {x2 : Int32} {a0 a1 : Nat} {h : lk_H} {Q : Option Value → lk_H → Prop} (H : lk_al2 h a1 (fun r1 => lk_wp X (d + 1) 30 8 [.ref a0, .ref a1, .int x2, .int (r1 - 1), .int 0, .retAddr 0, .retAddr 0] [] h Q)) : lk_wx X (d + 1) 30 [.ref a0, .ref a1, .int x2] h Q := by
  refine lk_enter (lo := [.ref a0, .ref a1, .int x2, .retAddr 0, .retAddr 0, .retAddr 0, .retAddr 0]) lk_M30 rfl (Nat.le_of_ble_eq_true rfl) ?_
  refine lk_wp_seg (lo' := [.ref a0, .ref a1, .int x2, .retAddr 0, .retAddr 0, .retAddr 0, .retAddr 0]) (st' := [.ref a1]) lk_M30 lk_s30_0_1 rfl ?_
  refine lk_wp_al lk_i30_1 lk_M30 H (fun r1 H => ?_)
  refine lk_wp_seg (lo' := [.ref a0, .ref a1, .int x2, .int (r1 - 1), .int 0, .retAddr 0, .retAddr 0]) (st' := []) lk_M30 lk_s30_2_5 rfl ?_
  exact H
set_option maxRecDepth 20000 in
theorem F_o_turnInto_8 {X : lk_X} {d : Nat} {x2 x3 x4 : Int32} {a0 a1 : Nat} {h : lk_H} {Q : Option Value → lk_H → Prop} (H : lk_al2 h a1 (fun r1 => (r1 ≤ x4 → Q none h) ∧ (¬ r1 ≤ x4 → ((x2 &&& 1) = 0 → ((x2 &&& 2) = 0 → lk_ai h a1 x4 (fun r2 => ((x2 &&& 4) = 0 → lk_as h a0 x4 r2 (fun h3 => lk_wp X (d + 1) 30 8 [.ref a0, .ref a1, .int x2, .int x3, .int (x4 + 1), .retAddr 0, .retAddr 0] [] h3 Q)) ∧ (¬ (x2 &&& 4) = 0 → lk_as h a0 r2 x4 (fun h4 => lk_wp X (d + 1) 30 8 [.ref a0, .ref a1, .int x2, .int x3, .int (x4 + 1), .retAddr 0, .retAddr 0] [] h4 Q)))) ∧ (¬ (x2 &&& 2) = 0 → lk_ai h a1 x4 (fun r5 => ((x2 &&& 4) = 0 → lk_as h a0 x4 (x3 - r5) (fun h6 => lk_wp X (d + 1) 30 8 [.ref a0, .ref a1, .int x2, .int x3, .int (x4 + 1), .retAddr 0, .retAddr 0] [] h6 Q)) ∧ (¬ (x2 &&& 4) = 0 → lk_as h a0 (x3 - r5) x4 (fun h7 => lk_wp X (d + 1) 30 8 [.ref a0, .ref a1, .int x2, .int x3, .int (x4 + 1), .retAddr 0, .retAddr 0] [] h7 Q))))) ∧ (¬ (x2 &&& 1) = 0 → ((x2 &&& 2) = 0 → lk_ai h a1 x4 (fun r8 => ((x2 &&& 4) = 0 → lk_as h a0 (x3 - x4) r8 (fun h9 => lk_wp X (d + 1) 30 8 [.ref a0, .ref a1, .int x2, .int x3, .int (x4 + 1), .retAddr 0, .retAddr 0] [] h9 Q)) ∧ (¬ (x2 &&& 4) = 0 → lk_as h a0 r8 (x3 - x4) (fun h10 => lk_wp X (d + 1) 30 8 [.ref a0, .ref a1, .int x2, .int x3, .int (x4 + 1), .retAddr 0, .retAddr 0] [] h10 Q)))) ∧ (¬ (x2 &&& 2) = 0 → lk_ai h a1 x4 (fun r11 => ((x2 &&& 4) = 0 → lk_as h a0 (x3 - x4) (x3 - r11) (fun h12 => lk_wp X (d + 1) 30 8 [.ref a0, .ref a1, .int x2, .int x3, .int (x4 + 1), .retAddr 0, .retAddr 0] [] h12 Q)) ∧ (¬ (x2 &&& 4) = 0 → lk_as h a0 (x3 - r11) (x3 - x4) (fun h13 => lk_wp X (d + 1) 30 8 [.ref a0, .ref a1, .int x2, .int x3, .int (x4 + 1), .retAddr 0, .retAddr 0] [] h13 Q)))))))) : lk_wp X (d + 1) 30 8 [.ref a0, .ref a1, .int x2, .int x3, .int x4, .retAddr 0, .retAddr 0] [] h Q := by
  refine lk_wp_seg (lo' := [.ref a0, .ref a1, .int x2, .int x3, .int x4, .retAddr 0, .retAddr 0]) (st' := [.ref a1, .int x4]) lk_M30 lk_s30_8_2 rfl ?_
  refine lk_wp_al lk_i30_11 lk_M30 H (fun r1 H => ?_)
  refine lk_wp_ic_ge lk_i30_12 lk_M30 H (fun H => ?_) (fun H => ?_)
  · exact lk_wp_ret lk_i30_80 lk_M30 rfl H
  · refine lk_wp_seg (lo' := [.ref a0, .ref a1, .int x2, .int x3, .int x4, .retAddr 0, .retAddr 0]) (st' := [.int (x2 &&& 1)]) lk_M30 lk_s30_15_3 rfl ?_
    refine lk_wp_if_eq lk_i30_18 lk_M30 H (fun H => ?_) (fun H => ?_)
    · refine lk_wp_seg (lo' := [.ref a0, .ref a1, .int x2, .int x3, .int x4, .int x4, .retAddr 0]) (st' := [.int (x2 &&& 2)]) lk_M30 lk_s30_28_5 rfl ?_
      refine lk_wp_if_eq lk_i30_35 lk_M30 H (fun H => ?_) (fun H => ?_)
      · refine lk_wp_seg (lo' := [.ref a0, .ref a1, .int x2, .int x3, .int x4, .int x4, .retAddr 0]) (st' := [.int x4, .ref a1]) lk_M30 lk_s30_47_2 rfl ?_
        refine lk_wp_ai lk_i30_50 lk_M30 H (fun r2 H => ?_)
        refine lk_wp_seg (lo' := [.ref a0, .ref a1, .int x2, .int x3, .int x4, .int x4, .int r2]) (st' := [.int (x2 &&& 4)]) lk_M30 lk_s30_51_4 rfl ?_
        refine lk_wp_if_eq lk_i30_56 lk_M30 H (fun H => ?_) (fun H => ?_)
        · refine lk_wp_seg (lo' := [.ref a0, .ref a1, .int x2, .int x3, .int x4, .int x4, .int r2]) (st' := [.int r2, .int x4, .ref a0]) lk_M30 lk_s30_68_3 rfl ?_
          refine lk_wp_as lk_i30_73 lk_M30 H (fun h3 H => ?_)
          refine lk_wp_seg (lo' := [.ref a0, .ref a1, .int x2, .int x3, .int (x4 + 1), .int x4, .int r2]) (st' := []) lk_M30 lk_s30_74_2 rfl ?_
          exact H.forget (lk_le_s (lk_le_s (lk_le_s (lk_le_s (lk_le_s (lk_le_d (lk_le_d lk_le_n)))))))
        · refine lk_wp_seg (lo' := [.ref a0, .ref a1, .int x2, .int x3, .int x4, .int x4, .int r2]) (st' := [.int x4, .int r2, .ref a0]) lk_M30 lk_s30_59_3 rfl ?_
          refine lk_wp_as lk_i30_64 lk_M30 H (fun h4 H => ?_)
          refine lk_wp_seg (lo' := [.ref a0, .ref a1, .int x2, .int x3, .int x4, .int x4, .int r2]) (st' := []) lk_M30 lk_s30_65_1 rfl ?_
          refine lk_wp_seg (lo' := [.ref a0, .ref a1, .int x2, .int x3, .int (x4 + 1), .int x4, .int r2]) (st' := []) lk_M30 lk_s30_74_2 rfl ?_
          exact H.forget (lk_le_s (lk_le_s (lk_le_s (lk_le_s (lk_le_s (lk_le_d (lk_le_d lk_le_n)))))))
      · refine lk_wp_seg (lo' := [.ref a0, .ref a1, .int x2, .int x3, .int x4, .int x4, .retAddr 0]) (st' := [.int x4, .ref a1, .int x3]) lk_M30 lk_s30_38_3 rfl ?_
        refine lk_wp_ai lk_i30_42 lk_M30 H (fun r5 H => ?_)
        refine lk_wp_seg (lo' := [.ref a0, .ref a1, .int x2, .int x3, .int x4, .int x4, .retAddr 0]) (st' := [.int (x3 - r5)]) lk_M30 lk_s30_43_2 rfl ?_
        refine lk_wp_seg (lo' := [.ref a0, .ref a1, .int x2, .int x3, .int x4, .int x4, .int (x3 - r5)]) (st' := [.int (x2 &&& 4)]) lk_M30 lk_s30_51_4 rfl ?_
        refine lk_wp_if_eq lk_i30_56 lk_M30 H (fun H => ?_) (fun H => ?_)
        · refine lk_wp_seg (lo' := [.ref a0, .ref a1, .int x2, .int x3, .int x4, .int x4, .int (x3 - r5)]) (st' := [.int (x3 - r5), .int x4, .ref a0]) lk_M30 lk_s30_68_3 rfl ?_
          refine lk_wp_as lk_i30_73 lk_M30 H (fun h6 H => ?_)
          refine lk_wp_seg (lo' := [.ref a0, .ref a1, .int x2, .int x3, .int (x4 + 1), .int x4, .int (x3 - r5)]) (st' := []) lk_M30 lk_s30_74_2 rfl ?_
          exact H.forget (lk_le_s (lk_le_s (lk_le_s (lk_le_s (lk_le_s (lk_le_d (lk_le_d lk_le_n)))))))
        · refine lk_wp_seg (lo' := [.ref a0, .ref a1, .int x2, .int x3, .int x4, .int x4, .int (x3 - r5)]) (st' := [.int x4, .int (x3 - r5), .ref a0]) lk_M30 lk_s30_59_3 rfl ?_
          refine lk_wp_as lk_i30_64 lk_M30 H (fun h7 H => ?_)
          refine lk_wp_seg (lo' := [.ref a0, .ref a1, .int x2, .int x3, .int x4, .int x4, .int (x3 - r5)]) (st' := []) lk_M30 lk_s30_65_1 rfl ?_
          refine lk_wp_seg (lo' := [.ref a0, .ref a1, .int x2, .int x3, .int (x4 + 1), .int x4, .int (x3 - r5)]) (st' := []) lk_M30 lk_s30_74_2 rfl ?_
          exact H.forget (lk_le_s (lk_le_s (lk_le_s (lk_le_s (lk_le_s (lk_le_d (lk_le_d lk_le_n)))))))
    · refine lk_wp_seg (lo' := [.ref a0, .ref a1, .int x2, .int x3, .int x4, .retAddr 0, .retAddr 0]) (st' := [.int (x3 - x4)]) lk_M30 lk_s30_21_4 rfl ?_
      refine lk_wp_seg (lo' := [.ref a0, .ref a1, .int x2, .int x3, .int x4, .int (x3 - x4), .retAddr 0]) (st' := [.int (x2 &&& 2)]) lk_M30 lk_s30_30_4 rfl ?_
      refine lk_wp_if_eq lk_i30_35 lk_M30 H (fun H => ?_) (fun H => ?_)
      · refine lk_wp_seg (lo' := [.ref a0, .ref a1, .int x2, .int x3, .int x4, .int (x3 - x4), .retAddr 0]) (st' := [.int x4, .ref a1]) lk_M30 lk_s30_47_2 rfl ?_
        refine lk_wp_ai lk_i30_50 lk_M30 H (fun r8 H => ?_)
        refine lk_wp_seg (lo' := [.ref a0, .ref a1, .int x2, .int x3, .int x4, .int (x3 - x4), .int r8]) (st' := [.int (x2 &&& 4)]) lk_M30 lk_s30_51_4 rfl ?_
        refine lk_wp_if_eq lk_i30_56 lk_M30 H (fun H => ?_) (fun H => ?_)
        · refine lk_wp_seg (lo' := [.ref a0, .ref a1, .int x2, .int x3, .int x4, .int (x3 - x4), .int r8]) (st' := [.int r8, .int (x3 - x4), .ref a0]) lk_M30 lk_s30_68_3 rfl ?_
          refine lk_wp_as lk_i30_73 lk_M30 H (fun h9 H => ?_)
          refine lk_wp_seg (lo' := [.ref a0, .ref a1, .int x2, .int x3, .int (x4 + 1), .int (x3 - x4), .int r8]) (st' := []) lk_M30 lk_s30_74_2 rfl ?_
          exact H.forget (lk_le_s (lk_le_s (lk_le_s (lk_le_s (lk_le_s (lk_le_d (lk_le_d lk_le_n)))))))
        · refine lk_wp_seg (lo' := [.ref a0, .ref a1, .int x2, .int x3, .int x4, .int (x3 - x4), .int r8]) (st' := [.int (x3 - x4), .int r8, .ref a0]) lk_M30 lk_s30_59_3 rfl ?_
          refine lk_wp_as lk_i30_64 lk_M30 H (fun h10 H => ?_)
          refine lk_wp_seg (lo' := [.ref a0, .ref a1, .int x2, .int x3, .int x4, .int (x3 - x4), .int r8]) (st' := []) lk_M30 lk_s30_65_1 rfl ?_
          refine lk_wp_seg (lo' := [.ref a0, .ref a1, .int x2, .int x3, .int (x4 + 1), .int (x3 - x4), .int r8]) (st' := []) lk_M30 lk_s30_74_2 rfl ?_
          exact H.forget (lk_le_s (lk_le_s (lk_le_s (lk_le_s (lk_le_s (lk_le_d (lk_le_d lk_le_n)))))))
      · refine lk_wp_seg (lo' := [.ref a0, .ref a1, .int x2, .int x3, .int x4, .int (x3 - x4), .retAddr 0]) (st' := [.int x4, .ref a1, .int x3]) lk_M30 lk_s30_38_3 rfl ?_
        refine lk_wp_ai lk_i30_42 lk_M30 H (fun r11 H => ?_)
        refine lk_wp_seg (lo' := [.ref a0, .ref a1, .int x2, .int x3, .int x4, .int (x3 - x4), .retAddr 0]) (st' := [.int (x3 - r11)]) lk_M30 lk_s30_43_2 rfl ?_
        refine lk_wp_seg (lo' := [.ref a0, .ref a1, .int x2, .int x3, .int x4, .int (x3 - x4), .int (x3 - r11)]) (st' := [.int (x2 &&& 4)]) lk_M30 lk_s30_51_4 rfl ?_
        refine lk_wp_if_eq lk_i30_56 lk_M30 H (fun H => ?_) (fun H => ?_)
        · refine lk_wp_seg (lo' := [.ref a0, .ref a1, .int x2, .int x3, .int x4, .int (x3 - x4), .int (x3 - r11)]) (st' := [.int (x3 - r11), .int (x3 - x4), .ref a0]) lk_M30 lk_s30_68_3 rfl ?_
          refine lk_wp_as lk_i30_73 lk_M30 H (fun h12 H => ?_)
          refine lk_wp_seg (lo' := [.ref a0, .ref a1, .int x2, .int x3, .int (x4 + 1), .int (x3 - x4), .int (x3 - r11)]) (st' := []) lk_M30 lk_s30_74_2 rfl ?_
          exact H.forget (lk_le_s (lk_le_s (lk_le_s (lk_le_s (lk_le_s (lk_le_d (lk_le_d lk_le_n)))))))
        · refine lk_wp_seg (lo' := [.ref a0, .ref a1, .int x2, .int x3, .int x4, .int (x3 - x4), .int (x3 - r11)]) (st' := [.int (x3 - x4), .int (x3 - r11), .ref a0]) lk_M30 lk_s30_59_3 rfl ?_
          refine lk_wp_as lk_i30_64 lk_M30 H (fun h13 H => ?_)
          refine lk_wp_seg (lo' := [.ref a0, .ref a1, .int x2, .int x3, .int x4, .int (x3 - x4), .int (x3 - r11)]) (st' := []) lk_M30 lk_s30_65_1 rfl ?_
          refine lk_wp_seg (lo' := [.ref a0, .ref a1, .int x2, .int x3, .int (x4 + 1), .int (x3 - x4), .int (x3 - r11)]) (st' := []) lk_M30 lk_s30_74_2 rfl ?_
          exact H.forget (lk_le_s (lk_le_s (lk_le_s (lk_le_s (lk_le_s (lk_le_d (lk_le_d lk_le_n)))))))
end
