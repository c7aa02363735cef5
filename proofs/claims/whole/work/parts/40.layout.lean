/-! THE HEAP while the law runs: 44 cells at known numbers, then what is made later -/
def hp_sh : Nat → Option Nat := fun k => if k < 8 then some (13 + 2 * k) else none
/-- x: the ints of the class by rows (0 latestFinding, 1 trace size, 2 trace, 3 meetings, 4 fits, 5 known, 6 marks, 7 taken, 8 least; of SHEET k: 10 + k items, 20 + k missing, 30 + k lane, 40 + k length); S the shelf, L the lists; m: the rows of the reference (0 lane, 1 size, 2 item, 3 moving, 4 kinds, 5 many, 6 row, 7 trace, 8 found, 9 met, 10 lonelyCount, 11 turnCount, 12 short0, 13 place0; 14 status, 15 traced, 16 known) -/
def hp (x : Nat → Nat → Int32) (S L : Nat → Option Nat) (m : Nat → Nat → Int32) (dyn : lk_H) : lk_H :=
  .inr (10, [.ref 1, .ref 2, .ref 3, .ref 5, .ref 8, .ref 9, .int (x 0 0)]) ::
  .inl (2, (8, .inr (.inr (.inr (.inr hp_sh))))) ::
  .inl (3, (10, .inr (.inr (.inr (.inr S))))) ::
  .inr (9, [.ref 4, .int (x 1 0)]) ::
  .inl (0, (16, .inl (x 2))) ::
  .inr (3, [.ref 6, .ref 7]) ::
  .inl (0, (31, .inl (x 3))) ::
  .inl (0, (441, .inl (x 4))) ::
  .inl (4, (8, .inr (.inr (.inr (.inr L))))) ::
  .inr (7, [.ref 10, .ref 11, .ref 12, .int (x 8 0)]) ::
  .inl (0, (7, .inl (x 5))) ::
  .inl (0, (6, .inl (x 6))) ::
  .inl (1, (201, .inl (x 7))) ::
  .inr (8, [.ref 14, .int (x 20 0), .int (x 30 0), .int (x 40 0)]) ::
  .inl (0, (60, .inl (x 10))) ::
  .inr (8, [.ref 16, .int (x 21 0), .int (x 31 0), .int (x 41 0)]) ::
  .inl (0, (60, .inl (x 11))) ::
  .inr (8, [.ref 18, .int (x 22 0), .int (x 32 0), .int (x 42 0)]) ::
  .inl (0, (60, .inl (x 12))) ::
  .inr (8, [.ref 20, .int (x 23 0), .int (x 33 0), .int (x 43 0)]) ::
  .inl (0, (60, .inl (x 13))) ::
  .inr (8, [.ref 22, .int (x 24 0), .int (x 34 0), .int (x 44 0)]) ::
  .inl (0, (60, .inl (x 14))) ::
  .inr (8, [.ref 24, .int (x 25 0), .int (x 35 0), .int (x 45 0)]) ::
  .inl (0, (60, .inl (x 15))) ::
  .inr (8, [.ref 26, .int (x 26 0), .int (x 36 0), .int (x 46 0)]) ::
  .inl (0, (60, .inl (x 16))) ::
  .inr (8, [.ref 28, .int (x 27 0), .int (x 37 0), .int (x 47 0)]) ::
  .inl (0, (60, .inl (x 17))) ::
  .inr (11, [.ref 30, .ref 31, .ref 32, .ref 33, .ref 34, .ref 35, .ref 36, .int (m 14 0), .ref 37, .int (m 15 0), .ref 38, .ref 39, .ref 40, .ref 41, .int (m 16 0), .ref 42, .ref 43]) ::
  .inl (0, (8, .inl (m 0))) ::
  .inl (0, (8, .inl (m 1))) ::
  .inl (0, (480, .inl (m 2))) ::
  .inl (0, (60, .inl (m 3))) ::
  .inl (0, (11, .inl (m 4))) ::
  .inl (0, (11, .inl (m 5))) ::
  .inl (0, (176, .inl (m 6))) ::
  .inl (0, (16, .inl (m 7))) ::
  .inl (0, (4, .inl (m 8))) ::
  .inl (1, (16, .inl (m 9))) ::
  .inl (0, (8, .inl (m 10))) ::
  .inl (0, (8, .inl (m 11))) ::
  .inl (0, (7, .inl (m 12))) ::
  .inl (0, (6, .inl (m 13))) ::
  dyn
def ms (m : Nat → Nat → Int32) (c i : Nat) (v : Int32) : Nat → Nat → Int32 := fun c' => if c' = c then upd (m c) i v else m c'
theorem ms_same (m : Nat → Nat → Int32) (c i : Nat) (v : Int32) : ms m c i v c = upd (m c) i v := if_pos rfl
theorem ms_ne {m : Nat → Nat → Int32} {c c' i : Nat} {v : Int32} (h : ¬ c' = c) : ms m c i v c' = m c' := if_neg h
theorem ms_at (m : Nat → Nat → Int32) (c i : Nat) (v : Int32) (c' i' : Nat) : ms m c i v c' i' = if c' = c ∧ i' = i then v else m c' i' := by
  by_cases h : c' = c
  · subst h
    rw [ms_same]
    by_cases h2 : i' = i <;> simp [upd, h2]
  · rw [ms_ne h]
    simp [h]
section HP
variable {x : Nat → Nat → Int32} {S L : Nat → Option Nat} {m : Nat → Nat → Int32} {dyn : lk_H}
theorem hp_length : (hp x S L m dyn).length = 44 + dyn.length := by simp only [hp, List.length_cons]; omega
theorem hp_push (c : va_E) : hp x S L m dyn ++ [c] = hp x S L m (dyn ++ [c]) := rfl
theorem hp_dyn (k : Nat) : (hp x S L m dyn)[44 + k]? = dyn[k]? := by
  rw [Nat.add_comm]; rfl
theorem hp_dynset (k : Nat) (c : va_E) : (hp x S L m dyn).set (44 + k) c = hp x S L m (dyn.set k c) := by
  rw [Nat.add_comm]; rfl
theorem hp_0 : (hp x S L m dyn)[0]? = some (.inr (10, [.ref 1, .ref 2, .ref 3, .ref 5, .ref 8, .ref 9, .int (x 0 0)])) := rfl
theorem hp_1 : (hp x S L m dyn)[1]? = some (.inl (2, (8, .inr (.inr (.inr (.inr hp_sh)))))) := rfl
theorem hp_2 : (hp x S L m dyn)[2]? = some (.inl (3, (10, .inr (.inr (.inr (.inr S)))))) := rfl
theorem hp_3 : (hp x S L m dyn)[3]? = some (.inr (9, [.ref 4, .int (x 1 0)])) := rfl
theorem hp_4 : (hp x S L m dyn)[4]? = some (.inl (0, (16, .inl (x 2)))) := rfl
theorem hp_5 : (hp x S L m dyn)[5]? = some (.inr (3, [.ref 6, .ref 7])) := rfl
theorem hp_6 : (hp x S L m dyn)[6]? = some (.inl (0, (31, .inl (x 3)))) := rfl
theorem hp_7 : (hp x S L m dyn)[7]? = some (.inl (0, (441, .inl (x 4)))) := rfl
theorem hp_8 : (hp x S L m dyn)[8]? = some (.inl (4, (8, .inr (.inr (.inr (.inr L)))))) := rfl
theorem hp_9 : (hp x S L m dyn)[9]? = some (.inr (7, [.ref 10, .ref 11, .ref 12, .int (x 8 0)])) := rfl
theorem hp_10 : (hp x S L m dyn)[10]? = some (.inl (0, (7, .inl (x 5)))) := rfl
theorem hp_11 : (hp x S L m dyn)[11]? = some (.inl (0, (6, .inl (x 6)))) := rfl
theorem hp_12 : (hp x S L m dyn)[12]? = some (.inl (1, (201, .inl (x 7)))) := rfl
theorem hp_13 : (hp x S L m dyn)[13]? = some (.inr (8, [.ref 14, .int (x 20 0), .int (x 30 0), .int (x 40 0)])) := rfl
theorem hp_14 : (hp x S L m dyn)[14]? = some (.inl (0, (60, .inl (x 10)))) := rfl
theorem hp_15 : (hp x S L m dyn)[15]? = some (.inr (8, [.ref 16, .int (x 21 0), .int (x 31 0), .int (x 41 0)])) := rfl
theorem hp_16 : (hp x S L m dyn)[16]? = some (.inl (0, (60, .inl (x 11)))) := rfl
theorem hp_17 : (hp x S L m dyn)[17]? = some (.inr (8, [.ref 18, .int (x 22 0), .int (x 32 0), .int (x 42 0)])) := rfl
theorem hp_18 : (hp x S L m dyn)[18]? = some (.inl (0, (60, .inl (x 12)))) := rfl
theorem hp_19 : (hp x S L m dyn)[19]? = some (.inr (8, [.ref 20, .int (x 23 0), .int (x 33 0), .int (x 43 0)])) := rfl
theorem hp_20 : (hp x S L m dyn)[20]? = some (.inl (0, (60, .inl (x 13)))) := rfl
theorem hp_21 : (hp x S L m dyn)[21]? = some (.inr (8, [.ref 22, .int (x 24 0), .int (x 34 0), .int (x 44 0)])) := rfl
theorem hp_22 : (hp x S L m dyn)[22]? = some (.inl (0, (60, .inl (x 14)))) := rfl
theorem hp_23 : (hp x S L m dyn)[23]? = some (.inr (8, [.ref 24, .int (x 25 0), .int (x 35 0), .int (x 45 0)])) := rfl
theorem hp_24 : (hp x S L m dyn)[24]? = some (.inl (0, (60, .inl (x 15)))) := rfl
theorem hp_25 : (hp x S L m dyn)[25]? = some (.inr (8, [.ref 26, .int (x 26 0), .int (x 36 0), .int (x 46 0)])) := rfl
theorem hp_26 : (hp x S L m dyn)[26]? = some (.inl (0, (60, .inl (x 16)))) := rfl
theorem hp_27 : (hp x S L m dyn)[27]? = some (.inr (8, [.ref 28, .int (x 27 0), .int (x 37 0), .int (x 47 0)])) := rfl
theorem hp_28 : (hp x S L m dyn)[28]? = some (.inl (0, (60, .inl (x 17)))) := rfl
theorem hp_29 : (hp x S L m dyn)[29]? = some (.inr (11, [.ref 30, .ref 31, .ref 32, .ref 33, .ref 34, .ref 35, .ref 36, .int (m 14 0), .ref 37, .int (m 15 0), .ref 38, .ref 39, .ref 40, .ref 41, .int (m 16 0), .ref 42, .ref 43])) := rfl
theorem hp_30 : (hp x S L m dyn)[30]? = some (.inl (0, (8, .inl (m 0)))) := rfl
theorem hp_31 : (hp x S L m dyn)[31]? = some (.inl (0, (8, .inl (m 1)))) := rfl
theorem hp_32 : (hp x S L m dyn)[32]? = some (.inl (0, (480, .inl (m 2)))) := rfl
theorem hp_33 : (hp x S L m dyn)[33]? = some (.inl (0, (60, .inl (m 3)))) := rfl
theorem hp_34 : (hp x S L m dyn)[34]? = some (.inl (0, (11, .inl (m 4)))) := rfl
theorem hp_35 : (hp x S L m dyn)[35]? = some (.inl (0, (11, .inl (m 5)))) := rfl
theorem hp_36 : (hp x S L m dyn)[36]? = some (.inl (0, (176, .inl (m 6)))) := rfl
theorem hp_37 : (hp x S L m dyn)[37]? = some (.inl (0, (16, .inl (m 7)))) := rfl
theorem hp_38 : (hp x S L m dyn)[38]? = some (.inl (0, (4, .inl (m 8)))) := rfl
theorem hp_39 : (hp x S L m dyn)[39]? = some (.inl (1, (16, .inl (m 9)))) := rfl
theorem hp_40 : (hp x S L m dyn)[40]? = some (.inl (0, (8, .inl (m 10)))) := rfl
theorem hp_41 : (hp x S L m dyn)[41]? = some (.inl (0, (8, .inl (m 11)))) := rfl
theorem hp_42 : (hp x S L m dyn)[42]? = some (.inl (0, (7, .inl (m 12)))) := rfl
theorem hp_43 : (hp x S L m dyn)[43]? = some (.inl (0, (6, .inl (m 13)))) := rfl
theorem hp_f0_0 {K : Nat → Prop} : lk_fR (hp x S L m dyn) 0 0 [(10, 0)] K ↔ K 1 := ⟨fun ⟨c, fs, y, h1, h2, h3, h4⟩ => by cases h1; cases h3; exact h4, fun h => ⟨_, _, _, rfl, rfl, rfl, h⟩⟩
theorem hp_f0_1 {K : Nat → Prop} : lk_fR (hp x S L m dyn) 0 1 [(10, 0)] K ↔ K 2 := ⟨fun ⟨c, fs, y, h1, h2, h3, h4⟩ => by cases h1; cases h3; exact h4, fun h => ⟨_, _, _, rfl, rfl, rfl, h⟩⟩
theorem hp_f0_2 {K : Nat → Prop} : lk_fR (hp x S L m dyn) 0 2 [(10, 0)] K ↔ K 3 := ⟨fun ⟨c, fs, y, h1, h2, h3, h4⟩ => by cases h1; cases h3; exact h4, fun h => ⟨_, _, _, rfl, rfl, rfl, h⟩⟩
theorem hp_f0_3 {K : Nat → Prop} : lk_fR (hp x S L m dyn) 0 3 [(10, 0)] K ↔ K 5 := ⟨fun ⟨c, fs, y, h1, h2, h3, h4⟩ => by cases h1; cases h3; exact h4, fun h => ⟨_, _, _, rfl, rfl, rfl, h⟩⟩
theorem hp_f0_4 {K : Nat → Prop} : lk_fR (hp x S L m dyn) 0 4 [(10, 0)] K ↔ K 8 := ⟨fun ⟨c, fs, y, h1, h2, h3, h4⟩ => by cases h1; cases h3; exact h4, fun h => ⟨_, _, _, rfl, rfl, rfl, h⟩⟩
theorem hp_f0_5 {K : Nat → Prop} : lk_fR (hp x S L m dyn) 0 5 [(10, 0)] K ↔ K 9 := ⟨fun ⟨c, fs, y, h1, h2, h3, h4⟩ => by cases h1; cases h3; exact h4, fun h => ⟨_, _, _, rfl, rfl, rfl, h⟩⟩
theorem hp_f0_6 {K : Int32 → Prop} : lk_fI (hp x S L m dyn) 0 6 [(10, 0)] K ↔ K (x 0 0) := ⟨fun ⟨c, fs, y, h1, h2, h3, h4⟩ => by cases h1; cases h3; exact h4, fun h => ⟨_, _, _, rfl, rfl, rfl, h⟩⟩
theorem hp_p0_6 {v : Int32} {K : lk_H → Prop} : lk_pf (hp x S L m dyn) 0 6 [(10, 0)] (.int v) K ↔ K (hp (ms x 0 0 v) S L m dyn) := ⟨fun ⟨c, fs, h1, h2, h3, h4, h5⟩ => by cases h1; exact h5, fun h => ⟨_, _, rfl, rfl, rfl, Nat.le_of_ble_eq_true rfl, h⟩⟩
theorem hp_v0 {j : Nat} {K : Nat → Prop} : lk_vc (hp x S L m dyn) 0 [(10, j)] K ↔ K j := ⟨fun ⟨c, fs, k, h1, h2, h3⟩ => by cases h1; cases h2; exact h3, fun h => ⟨_, _, _, rfl, rfl, h⟩⟩
theorem hp_o0 {K : Prop} : lk_ob (hp x S L m dyn) 0 K ↔ K := ⟨fun h => h.2, fun h => ⟨⟨_, rfl⟩, h⟩⟩
theorem hp_f3_0 {K : Nat → Prop} : lk_fR (hp x S L m dyn) 3 0 [(9, 0)] K ↔ K 4 := ⟨fun ⟨c, fs, y, h1, h2, h3, h4⟩ => by cases h1; cases h3; exact h4, fun h => ⟨_, _, _, rfl, rfl, rfl, h⟩⟩
theorem hp_f3_1 {K : Int32 → Prop} : lk_fI (hp x S L m dyn) 3 1 [(9, 0)] K ↔ K (x 1 0) := ⟨fun ⟨c, fs, y, h1, h2, h3, h4⟩ => by cases h1; cases h3; exact h4, fun h => ⟨_, _, _, rfl, rfl, rfl, h⟩⟩
theorem hp_p3_1 {v : Int32} {K : lk_H → Prop} : lk_pf (hp x S L m dyn) 3 1 [(9, 0)] (.int v) K ↔ K (hp (ms x 1 0 v) S L m dyn) := ⟨fun ⟨c, fs, h1, h2, h3, h4, h5⟩ => by cases h1; exact h5, fun h => ⟨_, _, rfl, rfl, rfl, Nat.le_of_ble_eq_true rfl, h⟩⟩
theorem hp_v3 {j : Nat} {K : Nat → Prop} : lk_vc (hp x S L m dyn) 3 [(9, j)] K ↔ K j := ⟨fun ⟨c, fs, k, h1, h2, h3⟩ => by cases h1; cases h2; exact h3, fun h => ⟨_, _, _, rfl, rfl, h⟩⟩
theorem hp_o3 {K : Prop} : lk_ob (hp x S L m dyn) 3 K ↔ K := ⟨fun h => h.2, fun h => ⟨⟨_, rfl⟩, h⟩⟩
theorem hp_f5_0 {K : Nat → Prop} : lk_fR (hp x S L m dyn) 5 0 [(3, 0)] K ↔ K 6 := ⟨fun ⟨c, fs, y, h1, h2, h3, h4⟩ => by cases h1; cases h3; exact h4, fun h => ⟨_, _, _, rfl, rfl, rfl, h⟩⟩
theorem hp_f5_1 {K : Nat → Prop} : lk_fR (hp x S L m dyn) 5 1 [(3, 0)] K ↔ K 7 := ⟨fun ⟨c, fs, y, h1, h2, h3, h4⟩ => by cases h1; cases h3; exact h4, fun h => ⟨_, _, _, rfl, rfl, rfl, h⟩⟩
theorem hp_v5 {j : Nat} {K : Nat → Prop} : lk_vc (hp x S L m dyn) 5 [(3, j)] K ↔ K j := ⟨fun ⟨c, fs, k, h1, h2, h3⟩ => by cases h1; cases h2; exact h3, fun h => ⟨_, _, _, rfl, rfl, h⟩⟩
theorem hp_o5 {K : Prop} : lk_ob (hp x S L m dyn) 5 K ↔ K := ⟨fun h => h.2, fun h => ⟨⟨_, rfl⟩, h⟩⟩
theorem hp_f9_0 {K : Nat → Prop} : lk_fR (hp x S L m dyn) 9 0 [(7, 0)] K ↔ K 10 := ⟨fun ⟨c, fs, y, h1, h2, h3, h4⟩ => by cases h1; cases h3; exact h4, fun h => ⟨_, _, _, rfl, rfl, rfl, h⟩⟩
theorem hp_f9_1 {K : Nat → Prop} : lk_fR (hp x S L m dyn) 9 1 [(7, 0)] K ↔ K 11 := ⟨fun ⟨c, fs, y, h1, h2, h3, h4⟩ => by cases h1; cases h3; exact h4, fun h => ⟨_, _, _, rfl, rfl, rfl, h⟩⟩
theorem hp_f9_2 {K : Nat → Prop} : lk_fR (hp x S L m dyn) 9 2 [(7, 0)] K ↔ K 12 := ⟨fun ⟨c, fs, y, h1, h2, h3, h4⟩ => by cases h1; cases h3; exact h4, fun h => ⟨_, _, _, rfl, rfl, rfl, h⟩⟩
theorem hp_f9_3 {K : Int32 → Prop} : lk_fI (hp x S L m dyn) 9 3 [(7, 0)] K ↔ K (x 8 0) := ⟨fun ⟨c, fs, y, h1, h2, h3, h4⟩ => by cases h1; cases h3; exact h4, fun h => ⟨_, _, _, rfl, rfl, rfl, h⟩⟩
theorem hp_p9_3 {v : Int32} {K : lk_H → Prop} : lk_pf (hp x S L m dyn) 9 3 [(7, 0)] (.int v) K ↔ K (hp (ms x 8 0 v) S L m dyn) := ⟨fun ⟨c, fs, h1, h2, h3, h4, h5⟩ => by cases h1; exact h5, fun h => ⟨_, _, rfl, rfl, rfl, Nat.le_of_ble_eq_true rfl, h⟩⟩
theorem hp_v9 {j : Nat} {K : Nat → Prop} : lk_vc (hp x S L m dyn) 9 [(7, j)] K ↔ K j := ⟨fun ⟨c, fs, k, h1, h2, h3⟩ => by cases h1; cases h2; exact h3, fun h => ⟨_, _, _, rfl, rfl, h⟩⟩
theorem hp_o9 {K : Prop} : lk_ob (hp x S L m dyn) 9 K ↔ K := ⟨fun h => h.2, fun h => ⟨⟨_, rfl⟩, h⟩⟩
theorem hp_f29_0 {K : Nat → Prop} : lk_fR (hp x S L m dyn) 29 0 [(11, 0)] K ↔ K 30 := ⟨fun ⟨c, fs, y, h1, h2, h3, h4⟩ => by cases h1; cases h3; exact h4, fun h => ⟨_, _, _, rfl, rfl, rfl, h⟩⟩
theorem hp_f29_1 {K : Nat → Prop} : lk_fR (hp x S L m dyn) 29 1 [(11, 0)] K ↔ K 31 := ⟨fun ⟨c, fs, y, h1, h2, h3, h4⟩ => by cases h1; cases h3; exact h4, fun h => ⟨_, _, _, rfl, rfl, rfl, h⟩⟩
theorem hp_f29_2 {K : Nat → Prop} : lk_fR (hp x S L m dyn) 29 2 [(11, 0)] K ↔ K 32 := ⟨fun ⟨c, fs, y, h1, h2, h3, h4⟩ => by cases h1; cases h3; exact h4, fun h => ⟨_, _, _, rfl, rfl, rfl, h⟩⟩
theorem hp_f29_3 {K : Nat → Prop} : lk_fR (hp x S L m dyn) 29 3 [(11, 0)] K ↔ K 33 := ⟨fun ⟨c, fs, y, h1, h2, h3, h4⟩ => by cases h1; cases h3; exact h4, fun h => ⟨_, _, _, rfl, rfl, rfl, h⟩⟩
theorem hp_f29_4 {K : Nat → Prop} : lk_fR (hp x S L m dyn) 29 4 [(11, 0)] K ↔ K 34 := ⟨fun ⟨c, fs, y, h1, h2, h3, h4⟩ => by cases h1; cases h3; exact h4, fun h => ⟨_, _, _, rfl, rfl, rfl, h⟩⟩
theorem hp_f29_5 {K : Nat → Prop} : lk_fR (hp x S L m dyn) 29 5 [(11, 0)] K ↔ K 35 := ⟨fun ⟨c, fs, y, h1, h2, h3, h4⟩ => by cases h1; cases h3; exact h4, fun h => ⟨_, _, _, rfl, rfl, rfl, h⟩⟩
theorem hp_f29_6 {K : Nat → Prop} : lk_fR (hp x S L m dyn) 29 6 [(11, 0)] K ↔ K 36 := ⟨fun ⟨c, fs, y, h1, h2, h3, h4⟩ => by cases h1; cases h3; exact h4, fun h => ⟨_, _, _, rfl, rfl, rfl, h⟩⟩
theorem hp_f29_7 {K : Int32 → Prop} : lk_fI (hp x S L m dyn) 29 7 [(11, 0)] K ↔ K (m 14 0) := ⟨fun ⟨c, fs, y, h1, h2, h3, h4⟩ => by cases h1; cases h3; exact h4, fun h => ⟨_, _, _, rfl, rfl, rfl, h⟩⟩
theorem hp_p29_7 {v : Int32} {K : lk_H → Prop} : lk_pf (hp x S L m dyn) 29 7 [(11, 0)] (.int v) K ↔ K (hp x S L (ms m 14 0 v) dyn) := ⟨fun ⟨c, fs, h1, h2, h3, h4, h5⟩ => by cases h1; exact h5, fun h => ⟨_, _, rfl, rfl, rfl, Nat.le_of_ble_eq_true rfl, h⟩⟩
theorem hp_f29_8 {K : Nat → Prop} : lk_fR (hp x S L m dyn) 29 8 [(11, 0)] K ↔ K 37 := ⟨fun ⟨c, fs, y, h1, h2, h3, h4⟩ => by cases h1; cases h3; exact h4, fun h => ⟨_, _, _, rfl, rfl, rfl, h⟩⟩
theorem hp_f29_9 {K : Int32 → Prop} : lk_fI (hp x S L m dyn) 29 9 [(11, 0)] K ↔ K (m 15 0) := ⟨fun ⟨c, fs, y, h1, h2, h3, h4⟩ => by cases h1; cases h3; exact h4, fun h => ⟨_, _, _, rfl, rfl, rfl, h⟩⟩
theorem hp_p29_9 {v : Int32} {K : lk_H → Prop} : lk_pf (hp x S L m dyn) 29 9 [(11, 0)] (.int v) K ↔ K (hp x S L (ms m 15 0 v) dyn) := ⟨fun ⟨c, fs, h1, h2, h3, h4, h5⟩ => by cases h1; exact h5, fun h => ⟨_, _, rfl, rfl, rfl, Nat.le_of_ble_eq_true rfl, h⟩⟩
theorem hp_f29_10 {K : Nat → Prop} : lk_fR (hp x S L m dyn) 29 10 [(11, 0)] K ↔ K 38 := ⟨fun ⟨c, fs, y, h1, h2, h3, h4⟩ => by cases h1; cases h3; exact h4, fun h => ⟨_, _, _, rfl, rfl, rfl, h⟩⟩
theorem hp_f29_11 {K : Nat → Prop} : lk_fR (hp x S L m dyn) 29 11 [(11, 0)] K ↔ K 39 := ⟨fun ⟨c, fs, y, h1, h2, h3, h4⟩ => by cases h1; cases h3; exact h4, fun h => ⟨_, _, _, rfl, rfl, rfl, h⟩⟩
theorem hp_f29_12 {K : Nat → Prop} : lk_fR (hp x S L m dyn) 29 12 [(11, 0)] K ↔ K 40 := ⟨fun ⟨c, fs, y, h1, h2, h3, h4⟩ => by cases h1; cases h3; exact h4, fun h => ⟨_, _, _, rfl, rfl, rfl, h⟩⟩
theorem hp_f29_13 {K : Nat → Prop} : lk_fR (hp x S L m dyn) 29 13 [(11, 0)] K ↔ K 41 := ⟨fun ⟨c, fs, y, h1, h2, h3, h4⟩ => by cases h1; cases h3; exact h4, fun h => ⟨_, _, _, rfl, rfl, rfl, h⟩⟩
theorem hp_f29_14 {K : Int32 → Prop} : lk_fI (hp x S L m dyn) 29 14 [(11, 0)] K ↔ K (m 16 0) := ⟨fun ⟨c, fs, y, h1, h2, h3, h4⟩ => by cases h1; cases h3; exact h4, fun h => ⟨_, _, _, rfl, rfl, rfl, h⟩⟩
theorem hp_p29_14 {v : Int32} {K : lk_H → Prop} : lk_pf (hp x S L m dyn) 29 14 [(11, 0)] (.int v) K ↔ K (hp x S L (ms m 16 0 v) dyn) := ⟨fun ⟨c, fs, h1, h2, h3, h4, h5⟩ => by cases h1; exact h5, fun h => ⟨_, _, rfl, rfl, rfl, Nat.le_of_ble_eq_true rfl, h⟩⟩
theorem hp_f29_15 {K : Nat → Prop} : lk_fR (hp x S L m dyn) 29 15 [(11, 0)] K ↔ K 42 := ⟨fun ⟨c, fs, y, h1, h2, h3, h4⟩ => by cases h1; cases h3; exact h4, fun h => ⟨_, _, _, rfl, rfl, rfl, h⟩⟩
theorem hp_f29_16 {K : Nat → Prop} : lk_fR (hp x S L m dyn) 29 16 [(11, 0)] K ↔ K 43 := ⟨fun ⟨c, fs, y, h1, h2, h3, h4⟩ => by cases h1; cases h3; exact h4, fun h => ⟨_, _, _, rfl, rfl, rfl, h⟩⟩
theorem hp_v29 {j : Nat} {K : Nat → Prop} : lk_vc (hp x S L m dyn) 29 [(11, j)] K ↔ K j := ⟨fun ⟨c, fs, k, h1, h2, h3⟩ => by cases h1; cases h2; exact h3, fun h => ⟨_, _, _, rfl, rfl, h⟩⟩
theorem hp_o29 {K : Prop} : lk_ob (hp x S L m dyn) 29 K ↔ K := ⟨fun h => h.2, fun h => ⟨⟨_, rfl⟩, h⟩⟩
theorem hp_a4 {i : Int32} {K : Int32 → Prop} : lk_ai (hp x S L m dyn) 4 i K ↔ vp_in i 16 ∧ K (x 2 i.toNatClampNeg) := ⟨fun ⟨n, f, h1, h2, h3⟩ => by cases h1; exact ⟨h2, h3⟩, fun h => ⟨_, _, rfl, h⟩⟩
theorem hp_w4 {i v : Int32} {K : lk_H → Prop} : lk_as (hp x S L m dyn) 4 i v K ↔ vp_in i 16 ∧ K (hp (ms x 2 i.toNatClampNeg v) S L m dyn) := ⟨fun ⟨n, f, h1, h2, h3⟩ => by cases h1; exact ⟨h2, h3⟩, fun h => ⟨_, _, rfl, h.1, h.2⟩⟩
theorem hp_l4 {K : Int32 → Prop} : lk_al2 (hp x S L m dyn) 4 K ↔ K 16 := ⟨fun ⟨t, y, h1, h2, h3⟩ => by cases h1; exact h3, fun h => ⟨_, _, rfl, by decide, h⟩⟩
theorem hp_a6 {i : Int32} {K : Int32 → Prop} : lk_ai (hp x S L m dyn) 6 i K ↔ vp_in i 31 ∧ K (x 3 i.toNatClampNeg) := ⟨fun ⟨n, f, h1, h2, h3⟩ => by cases h1; exact ⟨h2, h3⟩, fun h => ⟨_, _, rfl, h⟩⟩
theorem hp_w6 {i v : Int32} {K : lk_H → Prop} : lk_as (hp x S L m dyn) 6 i v K ↔ vp_in i 31 ∧ K (hp (ms x 3 i.toNatClampNeg v) S L m dyn) := ⟨fun ⟨n, f, h1, h2, h3⟩ => by cases h1; exact ⟨h2, h3⟩, fun h => ⟨_, _, rfl, h.1, h.2⟩⟩
theorem hp_l6 {K : Int32 → Prop} : lk_al2 (hp x S L m dyn) 6 K ↔ K 31 := ⟨fun ⟨t, y, h1, h2, h3⟩ => by cases h1; exact h3, fun h => ⟨_, _, rfl, by decide, h⟩⟩
theorem hp_a7 {i : Int32} {K : Int32 → Prop} : lk_ai (hp x S L m dyn) 7 i K ↔ vp_in i 441 ∧ K (x 4 i.toNatClampNeg) := ⟨fun ⟨n, f, h1, h2, h3⟩ => by cases h1; exact ⟨h2, h3⟩, fun h => ⟨_, _, rfl, h⟩⟩
theorem hp_w7 {i v : Int32} {K : lk_H → Prop} : lk_as (hp x S L m dyn) 7 i v K ↔ vp_in i 441 ∧ K (hp (ms x 4 i.toNatClampNeg v) S L m dyn) := ⟨fun ⟨n, f, h1, h2, h3⟩ => by cases h1; exact ⟨h2, h3⟩, fun h => ⟨_, _, rfl, h.1, h.2⟩⟩
theorem hp_l7 {K : Int32 → Prop} : lk_al2 (hp x S L m dyn) 7 K ↔ K 441 := ⟨fun ⟨t, y, h1, h2, h3⟩ => by cases h1; exact h3, fun h => ⟨_, _, rfl, by decide, h⟩⟩
theorem hp_a10 {i : Int32} {K : Int32 → Prop} : lk_ai (hp x S L m dyn) 10 i K ↔ vp_in i 7 ∧ K (x 5 i.toNatClampNeg) := ⟨fun ⟨n, f, h1, h2, h3⟩ => by cases h1; exact ⟨h2, h3⟩, fun h => ⟨_, _, rfl, h⟩⟩
theorem hp_w10 {i v : Int32} {K : lk_H → Prop} : lk_as (hp x S L m dyn) 10 i v K ↔ vp_in i 7 ∧ K (hp (ms x 5 i.toNatClampNeg v) S L m dyn) := ⟨fun ⟨n, f, h1, h2, h3⟩ => by cases h1; exact ⟨h2, h3⟩, fun h => ⟨_, _, rfl, h.1, h.2⟩⟩
theorem hp_l10 {K : Int32 → Prop} : lk_al2 (hp x S L m dyn) 10 K ↔ K 7 := ⟨fun ⟨t, y, h1, h2, h3⟩ => by cases h1; exact h3, fun h => ⟨_, _, rfl, by decide, h⟩⟩
theorem hp_a11 {i : Int32} {K : Int32 → Prop} : lk_ai (hp x S L m dyn) 11 i K ↔ vp_in i 6 ∧ K (x 6 i.toNatClampNeg) := ⟨fun ⟨n, f, h1, h2, h3⟩ => by cases h1; exact ⟨h2, h3⟩, fun h => ⟨_, _, rfl, h⟩⟩
theorem hp_w11 {i v : Int32} {K : lk_H → Prop} : lk_as (hp x S L m dyn) 11 i v K ↔ vp_in i 6 ∧ K (hp (ms x 6 i.toNatClampNeg v) S L m dyn) := ⟨fun ⟨n, f, h1, h2, h3⟩ => by cases h1; exact ⟨h2, h3⟩, fun h => ⟨_, _, rfl, h.1, h.2⟩⟩
theorem hp_l11 {K : Int32 → Prop} : lk_al2 (hp x S L m dyn) 11 K ↔ K 6 := ⟨fun ⟨t, y, h1, h2, h3⟩ => by cases h1; exact h3, fun h => ⟨_, _, rfl, by decide, h⟩⟩
theorem hp_a12 {i : Int32} {K : Int32 → Prop} : lk_zi (hp x S L m dyn) 12 i K ↔ vp_in i 201 ∧ K (x 7 i.toNatClampNeg) := ⟨fun ⟨n, f, h1, h2, h3⟩ => by cases h1; exact ⟨h2, h3⟩, fun h => ⟨_, _, rfl, h⟩⟩
theorem hp_w12 {i v : Int32} {K : lk_H → Prop} : lk_zs (hp x S L m dyn) 12 i v K ↔ vp_in i 201 ∧ K (hp (ms x 7 i.toNatClampNeg (vp_nar .boolean v)) S L m dyn) := ⟨fun ⟨n, f, h1, h2, h3⟩ => by cases h1; exact ⟨h2, h3⟩, fun h => ⟨_, _, rfl, h.1, h.2⟩⟩
theorem hp_l12 {K : Int32 → Prop} : lk_al2 (hp x S L m dyn) 12 K ↔ K 201 := ⟨fun ⟨t, y, h1, h2, h3⟩ => by cases h1; exact h3, fun h => ⟨_, _, rfl, by decide, h⟩⟩
theorem hp_a30 {i : Int32} {K : Int32 → Prop} : lk_ai (hp x S L m dyn) 30 i K ↔ vp_in i 8 ∧ K (m 0 i.toNatClampNeg) := ⟨fun ⟨n, f, h1, h2, h3⟩ => by cases h1; exact ⟨h2, h3⟩, fun h => ⟨_, _, rfl, h⟩⟩
theorem hp_w30 {i v : Int32} {K : lk_H → Prop} : lk_as (hp x S L m dyn) 30 i v K ↔ vp_in i 8 ∧ K (hp x S L (ms m 0 i.toNatClampNeg v) dyn) := ⟨fun ⟨n, f, h1, h2, h3⟩ => by cases h1; exact ⟨h2, h3⟩, fun h => ⟨_, _, rfl, h.1, h.2⟩⟩
theorem hp_l30 {K : Int32 → Prop} : lk_al2 (hp x S L m dyn) 30 K ↔ K 8 := ⟨fun ⟨t, y, h1, h2, h3⟩ => by cases h1; exact h3, fun h => ⟨_, _, rfl, by decide, h⟩⟩
theorem hp_a31 {i : Int32} {K : Int32 → Prop} : lk_ai (hp x S L m dyn) 31 i K ↔ vp_in i 8 ∧ K (m 1 i.toNatClampNeg) := ⟨fun ⟨n, f, h1, h2, h3⟩ => by cases h1; exact ⟨h2, h3⟩, fun h => ⟨_, _, rfl, h⟩⟩
theorem hp_w31 {i v : Int32} {K : lk_H → Prop} : lk_as (hp x S L m dyn) 31 i v K ↔ vp_in i 8 ∧ K (hp x S L (ms m 1 i.toNatClampNeg v) dyn) := ⟨fun ⟨n, f, h1, h2, h3⟩ => by cases h1; exact ⟨h2, h3⟩, fun h => ⟨_, _, rfl, h.1, h.2⟩⟩
theorem hp_l31 {K : Int32 → Prop} : lk_al2 (hp x S L m dyn) 31 K ↔ K 8 := ⟨fun ⟨t, y, h1, h2, h3⟩ => by cases h1; exact h3, fun h => ⟨_, _, rfl, by decide, h⟩⟩
theorem hp_a32 {i : Int32} {K : Int32 → Prop} : lk_ai (hp x S L m dyn) 32 i K ↔ vp_in i 480 ∧ K (m 2 i.toNatClampNeg) := ⟨fun ⟨n, f, h1, h2, h3⟩ => by cases h1; exact ⟨h2, h3⟩, fun h => ⟨_, _, rfl, h⟩⟩
theorem hp_w32 {i v : Int32} {K : lk_H → Prop} : lk_as (hp x S L m dyn) 32 i v K ↔ vp_in i 480 ∧ K (hp x S L (ms m 2 i.toNatClampNeg v) dyn) := ⟨fun ⟨n, f, h1, h2, h3⟩ => by cases h1; exact ⟨h2, h3⟩, fun h => ⟨_, _, rfl, h.1, h.2⟩⟩
theorem hp_l32 {K : Int32 → Prop} : lk_al2 (hp x S L m dyn) 32 K ↔ K 480 := ⟨fun ⟨t, y, h1, h2, h3⟩ => by cases h1; exact h3, fun h => ⟨_, _, rfl, by decide, h⟩⟩
theorem hp_a33 {i : Int32} {K : Int32 → Prop} : lk_ai (hp x S L m dyn) 33 i K ↔ vp_in i 60 ∧ K (m 3 i.toNatClampNeg) := ⟨fun ⟨n, f, h1, h2, h3⟩ => by cases h1; exact ⟨h2, h3⟩, fun h => ⟨_, _, rfl, h⟩⟩
theorem hp_w33 {i v : Int32} {K : lk_H → Prop} : lk_as (hp x S L m dyn) 33 i v K ↔ vp_in i 60 ∧ K (hp x S L (ms m 3 i.toNatClampNeg v) dyn) := ⟨fun ⟨n, f, h1, h2, h3⟩ => by cases h1; exact ⟨h2, h3⟩, fun h => ⟨_, _, rfl, h.1, h.2⟩⟩
theorem hp_l33 {K : Int32 → Prop} : lk_al2 (hp x S L m dyn) 33 K ↔ K 60 := ⟨fun ⟨t, y, h1, h2, h3⟩ => by cases h1; exact h3, fun h => ⟨_, _, rfl, by decide, h⟩⟩
theorem hp_a34 {i : Int32} {K : Int32 → Prop} : lk_ai (hp x S L m dyn) 34 i K ↔ vp_in i 11 ∧ K (m 4 i.toNatClampNeg) := ⟨fun ⟨n, f, h1, h2, h3⟩ => by cases h1; exact ⟨h2, h3⟩, fun h => ⟨_, _, rfl, h⟩⟩
theorem hp_w34 {i v : Int32} {K : lk_H → Prop} : lk_as (hp x S L m dyn) 34 i v K ↔ vp_in i 11 ∧ K (hp x S L (ms m 4 i.toNatClampNeg v) dyn) := ⟨fun ⟨n, f, h1, h2, h3⟩ => by cases h1; exact ⟨h2, h3⟩, fun h => ⟨_, _, rfl, h.1, h.2⟩⟩
theorem hp_l34 {K : Int32 → Prop} : lk_al2 (hp x S L m dyn) 34 K ↔ K 11 := ⟨fun ⟨t, y, h1, h2, h3⟩ => by cases h1; exact h3, fun h => ⟨_, _, rfl, by decide, h⟩⟩
theorem hp_a35 {i : Int32} {K : Int32 → Prop} : lk_ai (hp x S L m dyn) 35 i K ↔ vp_in i 11 ∧ K (m 5 i.toNatClampNeg) := ⟨fun ⟨n, f, h1, h2, h3⟩ => by cases h1; exact ⟨h2, h3⟩, fun h => ⟨_, _, rfl, h⟩⟩
theorem hp_w35 {i v : Int32} {K : lk_H → Prop} : lk_as (hp x S L m dyn) 35 i v K ↔ vp_in i 11 ∧ K (hp x S L (ms m 5 i.toNatClampNeg v) dyn) := ⟨fun ⟨n, f, h1, h2, h3⟩ => by cases h1; exact ⟨h2, h3⟩, fun h => ⟨_, _, rfl, h.1, h.2⟩⟩
theorem hp_l35 {K : Int32 → Prop} : lk_al2 (hp x S L m dyn) 35 K ↔ K 11 := ⟨fun ⟨t, y, h1, h2, h3⟩ => by cases h1; exact h3, fun h => ⟨_, _, rfl, by decide, h⟩⟩
theorem hp_a36 {i : Int32} {K : Int32 → Prop} : lk_ai (hp x S L m dyn) 36 i K ↔ vp_in i 176 ∧ K (m 6 i.toNatClampNeg) := ⟨fun ⟨n, f, h1, h2, h3⟩ => by cases h1; exact ⟨h2, h3⟩, fun h => ⟨_, _, rfl, h⟩⟩
theorem hp_w36 {i v : Int32} {K : lk_H → Prop} : lk_as (hp x S L m dyn) 36 i v K ↔ vp_in i 176 ∧ K (hp x S L (ms m 6 i.toNatClampNeg v) dyn) := ⟨fun ⟨n, f, h1, h2, h3⟩ => by cases h1; exact ⟨h2, h3⟩, fun h => ⟨_, _, rfl, h.1, h.2⟩⟩
theorem hp_l36 {K : Int32 → Prop} : lk_al2 (hp x S L m dyn) 36 K ↔ K 176 := ⟨fun ⟨t, y, h1, h2, h3⟩ => by cases h1; exact h3, fun h => ⟨_, _, rfl, by decide, h⟩⟩
theorem hp_a37 {i : Int32} {K : Int32 → Prop} : lk_ai (hp x S L m dyn) 37 i K ↔ vp_in i 16 ∧ K (m 7 i.toNatClampNeg) := ⟨fun ⟨n, f, h1, h2, h3⟩ => by cases h1; exact ⟨h2, h3⟩, fun h => ⟨_, _, rfl, h⟩⟩
theorem hp_w37 {i v : Int32} {K : lk_H → Prop} : lk_as (hp x S L m dyn) 37 i v K ↔ vp_in i 16 ∧ K (hp x S L (ms m 7 i.toNatClampNeg v) dyn) := ⟨fun ⟨n, f, h1, h2, h3⟩ => by cases h1; exact ⟨h2, h3⟩, fun h => ⟨_, _, rfl, h.1, h.2⟩⟩
theorem hp_l37 {K : Int32 → Prop} : lk_al2 (hp x S L m dyn) 37 K ↔ K 16 := ⟨fun ⟨t, y, h1, h2, h3⟩ => by cases h1; exact h3, fun h => ⟨_, _, rfl, by decide, h⟩⟩
theorem hp_a38 {i : Int32} {K : Int32 → Prop} : lk_ai (hp x S L m dyn) 38 i K ↔ vp_in i 4 ∧ K (m 8 i.toNatClampNeg) := ⟨fun ⟨n, f, h1, h2, h3⟩ => by cases h1; exact ⟨h2, h3⟩, fun h => ⟨_, _, rfl, h⟩⟩
theorem hp_w38 {i v : Int32} {K : lk_H → Prop} : lk_as (hp x S L m dyn) 38 i v K ↔ vp_in i 4 ∧ K (hp x S L (ms m 8 i.toNatClampNeg v) dyn) := ⟨fun ⟨n, f, h1, h2, h3⟩ => by cases h1; exact ⟨h2, h3⟩, fun h => ⟨_, _, rfl, h.1, h.2⟩⟩
theorem hp_l38 {K : Int32 → Prop} : lk_al2 (hp x S L m dyn) 38 K ↔ K 4 := ⟨fun ⟨t, y, h1, h2, h3⟩ => by cases h1; exact h3, fun h => ⟨_, _, rfl, by decide, h⟩⟩
theorem hp_a39 {i : Int32} {K : Int32 → Prop} : lk_zi (hp x S L m dyn) 39 i K ↔ vp_in i 16 ∧ K (m 9 i.toNatClampNeg) := ⟨fun ⟨n, f, h1, h2, h3⟩ => by cases h1; exact ⟨h2, h3⟩, fun h => ⟨_, _, rfl, h⟩⟩
theorem hp_w39 {i v : Int32} {K : lk_H → Prop} : lk_zs (hp x S L m dyn) 39 i v K ↔ vp_in i 16 ∧ K (hp x S L (ms m 9 i.toNatClampNeg (vp_nar .boolean v)) dyn) := ⟨fun ⟨n, f, h1, h2, h3⟩ => by cases h1; exact ⟨h2, h3⟩, fun h => ⟨_, _, rfl, h.1, h.2⟩⟩
theorem hp_l39 {K : Int32 → Prop} : lk_al2 (hp x S L m dyn) 39 K ↔ K 16 := ⟨fun ⟨t, y, h1, h2, h3⟩ => by cases h1; exact h3, fun h => ⟨_, _, rfl, by decide, h⟩⟩
theorem hp_a40 {i : Int32} {K : Int32 → Prop} : lk_ai (hp x S L m dyn) 40 i K ↔ vp_in i 8 ∧ K (m 10 i.toNatClampNeg) := ⟨fun ⟨n, f, h1, h2, h3⟩ => by cases h1; exact ⟨h2, h3⟩, fun h => ⟨_, _, rfl, h⟩⟩
theorem hp_w40 {i v : Int32} {K : lk_H → Prop} : lk_as (hp x S L m dyn) 40 i v K ↔ vp_in i 8 ∧ K (hp x S L (ms m 10 i.toNatClampNeg v) dyn) := ⟨fun ⟨n, f, h1, h2, h3⟩ => by cases h1; exact ⟨h2, h3⟩, fun h => ⟨_, _, rfl, h.1, h.2⟩⟩
theorem hp_l40 {K : Int32 → Prop} : lk_al2 (hp x S L m dyn) 40 K ↔ K 8 := ⟨fun ⟨t, y, h1, h2, h3⟩ => by cases h1; exact h3, fun h => ⟨_, _, rfl, by decide, h⟩⟩
theorem hp_a41 {i : Int32} {K : Int32 → Prop} : lk_ai (hp x S L m dyn) 41 i K ↔ vp_in i 8 ∧ K (m 11 i.toNatClampNeg) := ⟨fun ⟨n, f, h1, h2, h3⟩ => by cases h1; exact ⟨h2, h3⟩, fun h => ⟨_, _, rfl, h⟩⟩
theorem hp_w41 {i v : Int32} {K : lk_H → Prop} : lk_as (hp x S L m dyn) 41 i v K ↔ vp_in i 8 ∧ K (hp x S L (ms m 11 i.toNatClampNeg v) dyn) := ⟨fun ⟨n, f, h1, h2, h3⟩ => by cases h1; exact ⟨h2, h3⟩, fun h => ⟨_, _, rfl, h.1, h.2⟩⟩
theorem hp_l41 {K : Int32 → Prop} : lk_al2 (hp x S L m dyn) 41 K ↔ K 8 := ⟨fun ⟨t, y, h1, h2, h3⟩ => by cases h1; exact h3, fun h => ⟨_, _, rfl, by decide, h⟩⟩
theorem hp_a42 {i : Int32} {K : Int32 → Prop} : lk_ai (hp x S L m dyn) 42 i K ↔ vp_in i 7 ∧ K (m 12 i.toNatClampNeg) := ⟨fun ⟨n, f, h1, h2, h3⟩ => by cases h1; exact ⟨h2, h3⟩, fun h => ⟨_, _, rfl, h⟩⟩
theorem hp_w42 {i v : Int32} {K : lk_H → Prop} : lk_as (hp x S L m dyn) 42 i v K ↔ vp_in i 7 ∧ K (hp x S L (ms m 12 i.toNatClampNeg v) dyn) := ⟨fun ⟨n, f, h1, h2, h3⟩ => by cases h1; exact ⟨h2, h3⟩, fun h => ⟨_, _, rfl, h.1, h.2⟩⟩
theorem hp_l42 {K : Int32 → Prop} : lk_al2 (hp x S L m dyn) 42 K ↔ K 7 := ⟨fun ⟨t, y, h1, h2, h3⟩ => by cases h1; exact h3, fun h => ⟨_, _, rfl, by decide, h⟩⟩
theorem hp_a43 {i : Int32} {K : Int32 → Prop} : lk_ai (hp x S L m dyn) 43 i K ↔ vp_in i 6 ∧ K (m 13 i.toNatClampNeg) := ⟨fun ⟨n, f, h1, h2, h3⟩ => by cases h1; exact ⟨h2, h3⟩, fun h => ⟨_, _, rfl, h⟩⟩
theorem hp_w43 {i v : Int32} {K : lk_H → Prop} : lk_as (hp x S L m dyn) 43 i v K ↔ vp_in i 6 ∧ K (hp x S L (ms m 13 i.toNatClampNeg v) dyn) := ⟨fun ⟨n, f, h1, h2, h3⟩ => by cases h1; exact ⟨h2, h3⟩, fun h => ⟨_, _, rfl, h.1, h.2⟩⟩
theorem hp_l43 {K : Int32 → Prop} : lk_al2 (hp x S L m dyn) 43 K ↔ K 6 := ⟨fun ⟨t, y, h1, h2, h3⟩ => by cases h1; exact h3, fun h => ⟨_, _, rfl, by decide, h⟩⟩
theorem hp_ra1 {i : Int32} {A : Prop} {B : Nat → Prop} : lk_ra (hp x S L m dyn) 1 i A B ↔ vp_in i 8 ∧ B (13 + 2 * i.toNatClampNeg) := by
  have key : vp_in i 8 → hp_sh i.toNatClampNeg = some (13 + 2 * i.toNatClampNeg) := fun h => if_pos (Nat.not_le.mp fun q => h (Or.inr q))
  constructor
  · rintro ⟨t, n, f, h1, h2, h3, h4, h5, h6⟩
    cases h1
    exact ⟨h2, h6 _ (key h2)⟩
  · rintro ⟨h1, h2⟩
    refine ⟨_, _, _, rfl, h1, by decide, by decide, fun h => ?_, fun y h => ?_⟩
    · rw [key h1] at h; cases h
    · rw [key h1] at h; cases h; exact h2
theorem hp_ra2 {i : Int32} {A : Prop} {B : Nat → Prop} : lk_ra (hp x S L m dyn) 2 i A B ↔ vp_in i 10 ∧ (S i.toNatClampNeg = none → A) ∧ ∀ a, S i.toNatClampNeg = some a → B a := ⟨fun ⟨t, n, f, h1, h2, h3, h4, h5, h6⟩ => by cases h1; exact ⟨h2, h5, h6⟩, fun h => ⟨_, _, _, rfl, h.1, by decide, by decide, h.2.1, h.2.2⟩⟩
theorem hp_ra8 {i : Int32} {A : Prop} {B : Nat → Prop} : lk_ra (hp x S L m dyn) 8 i A B ↔ vp_in i 8 ∧ (L i.toNatClampNeg = none → A) ∧ ∀ a, L i.toNatClampNeg = some a → B a := ⟨fun ⟨t, n, f, h1, h2, h3, h4, h5, h6⟩ => by cases h1; exact ⟨h2, h5, h6⟩, fun h => ⟨_, _, _, rfl, h.1, by decide, by decide, h.2.1, h.2.2⟩⟩
theorem hp_rs2 {i : Int32} {v : Nat} {K : lk_H → Prop} {c : Nat} {fs : List Value} (hv : (hp x S L m dyn)[v]? = some (.inr (c, fs))) (hc : lk_cm 3 c = true) : lk_rs (hp x S L m dyn) 2 i v K ↔ vp_in i 10 ∧ K (hp x (va_up S i.toNatClampNeg (some v)) L m dyn) := ⟨fun ⟨t, n, f, c, fs, h1, h2, h3, h4, h5⟩ => by cases h1; exact ⟨h2, h5⟩, fun h => ⟨_, _, _, _, _, rfl, h.1, hv, hc, h.2⟩⟩
theorem hp_rn2 {i : Int32} {K : lk_H → Prop} : lk_rn (hp x S L m dyn) 2 i K ↔ vp_in i 10 ∧ K (hp x (va_up S i.toNatClampNeg none) L m dyn) := ⟨fun ⟨t, n, f, h1, h2, h3, h4, h5⟩ => by cases h1; exact ⟨h2, h5⟩, fun h => ⟨_, _, _, rfl, h.1, by decide, by decide, h.2⟩⟩
theorem hp_rs8 {i : Int32} {v : Nat} {K : lk_H → Prop} {fs : List Value} (hv : (hp x S L m dyn)[v]? = some (.inr (1, fs))) : lk_rs (hp x S L m dyn) 8 i v K ↔ vp_in i 8 ∧ K (hp x S (va_up L i.toNatClampNeg (some v)) m dyn) := ⟨fun ⟨t, n, f, c, fs, h1, h2, h3, h4, h5⟩ => by cases h1; exact ⟨h2, h5⟩, fun h => ⟨_, _, _, _, _, rfl, h.1, hv, rfl, h.2⟩⟩
theorem hp_so {k : Nat} (hk : k < 8) : (hp x S L m dyn)[13 + 2 * k]? = some (.inr (8, [.ref (14 + 2 * k), .int (x (20 + k) 0), .int (x (30 + k) 0), .int (x (40 + k) 0)])) := by
  match k, hk with
  | 0, _ => rfl
  | 1, _ => rfl
  | 2, _ => rfl
  | 3, _ => rfl
  | 4, _ => rfl
  | 5, _ => rfl
  | 6, _ => rfl
  | 7, _ => rfl
theorem hp_si {k : Nat} (hk : k < 8) : (hp x S L m dyn)[14 + 2 * k]? = some (.inl (0, (60, .inl (x (10 + k))))) := by
  match k, hk with
  | 0, _ => rfl
  | 1, _ => rfl
  | 2, _ => rfl
  | 3, _ => rfl
  | 4, _ => rfl
  | 5, _ => rfl
  | 6, _ => rfl
  | 7, _ => rfl
theorem hp_sp1 {k : Nat} {v : Int32} (hk : k < 8) : (hp x S L m dyn).set (13 + 2 * k) (.inr (8, [.ref (14 + 2 * k), .int v, .int (x (30 + k) 0), .int (x (40 + k) 0)])) = hp (ms x (20 + k) 0 v) S L m dyn := by
  match k, hk with
  | 0, _ => rfl
  | 1, _ => rfl
  | 2, _ => rfl
  | 3, _ => rfl
  | 4, _ => rfl
  | 5, _ => rfl
  | 6, _ => rfl
  | 7, _ => rfl
theorem hp_sp2 {k : Nat} {v : Int32} (hk : k < 8) : (hp x S L m dyn).set (13 + 2 * k) (.inr (8, [.ref (14 + 2 * k), .int (x (20 + k) 0), .int v, .int (x (40 + k) 0)])) = hp (ms x (30 + k) 0 v) S L m dyn := by
  match k, hk with
  | 0, _ => rfl
  | 1, _ => rfl
  | 2, _ => rfl
  | 3, _ => rfl
  | 4, _ => rfl
  | 5, _ => rfl
  | 6, _ => rfl
  | 7, _ => rfl
theorem hp_sp3 {k : Nat} {v : Int32} (hk : k < 8) : (hp x S L m dyn).set (13 + 2 * k) (.inr (8, [.ref (14 + 2 * k), .int (x (20 + k) 0), .int (x (30 + k) 0), .int v])) = hp (ms x (40 + k) 0 v) S L m dyn := by
  match k, hk with
  | 0, _ => rfl
  | 1, _ => rfl
  | 2, _ => rfl
  | 3, _ => rfl
  | 4, _ => rfl
  | 5, _ => rfl
  | 6, _ => rfl
  | 7, _ => rfl
theorem hp_sw {k i : Nat} {v : Int32} (hk : k < 8) : (hp x S L m dyn).set (14 + 2 * k) (.inl (0, (60, .inl (upd (x (10 + k)) i v)))) = hp (ms x (10 + k) i v) S L m dyn := by
  match k, hk with
  | 0, _ => rfl
  | 1, _ => rfl
  | 2, _ => rfl
  | 3, _ => rfl
  | 4, _ => rfl
  | 5, _ => rfl
  | 6, _ => rfl
  | 7, _ => rfl
theorem hp_sfR {k : Nat} {K : Nat → Prop} (hk : k < 8) : lk_fR (hp x S L m dyn) (13 + 2 * k) 0 [(8, 0)] K ↔ K (14 + 2 * k) := ⟨fun ⟨c, fs, y, h1, h2, h3, h4⟩ => by rw [hp_so hk] at h1; cases h1; cases h3; exact h4, fun h => ⟨_, _, _, hp_so hk, rfl, rfl, h⟩⟩
theorem hp_sfI1 {k : Nat} {K : Int32 → Prop} (hk : k < 8) : lk_fI (hp x S L m dyn) (13 + 2 * k) 1 [(8, 0)] K ↔ K (x (20 + k) 0) := ⟨fun ⟨c, fs, y, h1, h2, h3, h4⟩ => by rw [hp_so hk] at h1; cases h1; cases h3; exact h4, fun h => ⟨_, _, _, hp_so hk, rfl, rfl, h⟩⟩
theorem hp_spf1 {k : Nat} {v : Int32} {K : lk_H → Prop} (hk : k < 8) (hv : v = 0 ∨ v = 1) : lk_pf (hp x S L m dyn) (13 + 2 * k) 1 [(8, 0)] (.int v) K ↔ K (hp (ms x (20 + k) 0 v) S L m dyn) := by
  constructor
  · rintro ⟨c, fs, h1, h2, h3, h4, h5⟩
    rw [hp_so hk] at h1
    cases h1
    rw [← hp_sp1 hk]
    exact h5
  · intro h
    rw [← hp_sp1 hk] at h
    exact ⟨_, _, hp_so hk, rfl, (by show lk_fit (some .boolean) (.int v) = true; simp [lk_fit, hv]), Nat.le_of_ble_eq_true rfl, h⟩
theorem hp_sfI2 {k : Nat} {K : Int32 → Prop} (hk : k < 8) : lk_fI (hp x S L m dyn) (13 + 2 * k) 2 [(8, 0)] K ↔ K (x (30 + k) 0) := ⟨fun ⟨c, fs, y, h1, h2, h3, h4⟩ => by rw [hp_so hk] at h1; cases h1; cases h3; exact h4, fun h => ⟨_, _, _, hp_so hk, rfl, rfl, h⟩⟩
theorem hp_spf2 {k : Nat} {v : Int32} {K : lk_H → Prop} (hk : k < 8) : lk_pf (hp x S L m dyn) (13 + 2 * k) 2 [(8, 0)] (.int v) K ↔ K (hp (ms x (30 + k) 0 v) S L m dyn) := by
  constructor
  · rintro ⟨c, fs, h1, h2, h3, h4, h5⟩
    rw [hp_so hk] at h1
    cases h1
    rw [← hp_sp2 hk]
    exact h5
  · intro h
    rw [← hp_sp2 hk] at h
    exact ⟨_, _, hp_so hk, rfl, rfl, Nat.le_of_ble_eq_true rfl, h⟩
theorem hp_sfI3 {k : Nat} {K : Int32 → Prop} (hk : k < 8) : lk_fI (hp x S L m dyn) (13 + 2 * k) 3 [(8, 0)] K ↔ K (x (40 + k) 0) := ⟨fun ⟨c, fs, y, h1, h2, h3, h4⟩ => by rw [hp_so hk] at h1; cases h1; cases h3; exact h4, fun h => ⟨_, _, _, hp_so hk, rfl, rfl, h⟩⟩
theorem hp_spf3 {k : Nat} {v : Int32} {K : lk_H → Prop} (hk : k < 8) : lk_pf (hp x S L m dyn) (13 + 2 * k) 3 [(8, 0)] (.int v) K ↔ K (hp (ms x (40 + k) 0 v) S L m dyn) := by
  constructor
  · rintro ⟨c, fs, h1, h2, h3, h4, h5⟩
    rw [hp_so hk] at h1
    cases h1
    rw [← hp_sp3 hk]
    exact h5
  · intro h
    rw [← hp_sp3 hk] at h
    exact ⟨_, _, hp_so hk, rfl, rfl, Nat.le_of_ble_eq_true rfl, h⟩
theorem hp_sv {k j : Nat} {K : Nat → Prop} (hk : k < 8) : lk_vc (hp x S L m dyn) (13 + 2 * k) [(8, j)] K ↔ K j := ⟨fun ⟨c, fs, q, h1, h2, h3⟩ => by rw [hp_so hk] at h1; cases h1; cases h2; exact h3, fun h => ⟨_, _, _, hp_so hk, rfl, h⟩⟩
theorem hp_sa {k : Nat} {i : Int32} {K : Int32 → Prop} (hk : k < 8) : lk_ai (hp x S L m dyn) (14 + 2 * k) i K ↔ vp_in i 60 ∧ K (x (10 + k) i.toNatClampNeg) := ⟨fun ⟨n, f, h1, h2, h3⟩ => by rw [hp_si hk] at h1; cases h1; exact ⟨h2, h3⟩, fun h => ⟨_, _, hp_si hk, h⟩⟩
theorem hp_sl {k : Nat} {K : Int32 → Prop} (hk : k < 8) : lk_al2 (hp x S L m dyn) (14 + 2 * k) K ↔ K 60 := ⟨fun ⟨t, y, h1, h2, h3⟩ => by rw [hp_si hk] at h1; cases h1; exact h3, fun h => ⟨_, _, hp_si hk, by decide, h⟩⟩
theorem hp_sas {k : Nat} {i v : Int32} {K : lk_H → Prop} (hk : k < 8) : lk_as (hp x S L m dyn) (14 + 2 * k) i v K ↔ vp_in i 60 ∧ K (hp (ms x (10 + k) i.toNatClampNeg v) S L m dyn) := by
  constructor
  · rintro ⟨n, f, h1, h2, h3⟩
    rw [hp_si hk] at h1
    cases h1
    rw [hp_sw hk] at h3
    exact ⟨h2, h3⟩
  · rintro ⟨h1, h2⟩
    rw [← hp_sw hk] at h2
    exact ⟨_, _, hp_si hk, h1, h2⟩
end HP
/-! what a call comes to, once and for all -/
def lk_ev (X : lk_X) (d k : Nat) (as : List Value) (h : lk_H) (v : Option Value) (h' : lk_H) : Prop := lk_wx X d k as h (fun w g => w = v ∧ g = h')
theorem lk_ev.iff {X : lk_X} {d k : Nat} {as : List Value} {h h' : lk_H} {v : Option Value} (e : lk_ev X d k as h v h') {Q : Option Value → lk_H → Prop} : lk_wx X d k as h Q ↔ Q v h' := by
  obtain ⟨K, h1, h2, n, w, g, e1, rfl, rfl⟩ := e
  constructor
  · rintro ⟨K2, h3, h4, n2, w2, g2, e2, hq⟩
    cases h1.symm.trans h3
    have a := lk_run_mono X n d k 0 _ _ h _ e1 (n + n2) d (by omega) (Nat.le_refl _)
    have b := lk_run_mono X n2 d k 0 _ _ h _ e2 (n + n2) d (by omega) (Nat.le_refl _)
    cases a.symm.trans b
    exact hq
  · intro hq
    exact ⟨K, h1, h2, n, w, g, e1, hq⟩
theorem lk_ev.iffi {X : lk_X} {d k : Nat} {as : List Value} {h h' : lk_H} {r : Int32} (e : lk_ev X d k as h (some (.int r)) h') {K : Int32 → lk_H → Prop} : lk_wxi X d k as h K ↔ K r h' := by
  unfold lk_wxi
  rw [e.iff]
  exact ⟨fun ⟨y, h1, h2⟩ => by cases h1; exact h2, fun h => ⟨r, rfl, h⟩⟩
theorem lk_ev.iffv {X : lk_X} {d k : Nat} {as : List Value} {h h' : lk_H} (e : lk_ev X d k as h none h') {K : lk_H → Prop} : lk_wxv X d k as h K ↔ K h' := by
  unfold lk_wxv
  rw [e.iff]
  exact ⟨fun h => h.2, fun h => ⟨rfl, h⟩⟩
theorem lk_ev.iffr {X : lk_X} {d k : Nat} {as : List Value} {h h' : lk_H} {a : Nat} (e : lk_ev X d k as h (some (.ref a)) h') {A : lk_H → Prop} {B : Nat → lk_H → Prop} : lk_wxr X d k as h A B ↔ B a h' := by
  unfold lk_wxr
  rw [e.iff]
  constructor
  · rintro (⟨h1, -⟩ | ⟨y, h1, h2⟩)
    · cases h1
    · cases h1; exact h2
  · exact fun hq => Or.inr ⟨a, rfl, hq⟩
theorem lk_ev.iffn {X : lk_X} {d k : Nat} {as : List Value} {h h' : lk_H} (e : lk_ev X d k as h (some .null) h') {A : lk_H → Prop} {B : Nat → lk_H → Prop} : lk_wxr X d k as h A B ↔ A h' := by
  unfold lk_wxr
  rw [e.iff]
  constructor
  · rintro (⟨-, h2⟩ | ⟨y, h1, -⟩)
    · exact h2
    · cases h1
  · exact fun hq => Or.inl ⟨rfl, hq⟩
theorem lk_ev.mono {X : lk_X} {d d' k : Nat} {as : List Value} {h h' : lk_H} {v : Option Value} (e : lk_ev X d k as h v h') (hd : d ≤ d') : lk_ev X d' k as h v h' := lk_wx.mono e hd (fun _ _ h => h)
