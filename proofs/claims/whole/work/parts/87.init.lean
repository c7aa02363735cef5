/-! the beginning: both objects made -/
def xz : Nat → Nat → Int32 := fun c q => if c = 5 then (if q < 7 then -1 else 0) else if 20 ≤ c ∧ c < 28 then 1 else 0
def mz : Nat → Nat → Int32 := fun _ _ => 0
def no : Nat → Option Nat := fun _ => none
/-- the class's cells with k sheets -/
def HB0 (f : Nat → Option Nat) : lk_H := [.inr (10, [.ref 1, .ref 2, .ref 3, .ref 5, .ref 8, .ref 9, .int 0]), .inl (2, (8, .inr (.inr (.inr (.inr f))))), .inl (3, (10, .inr (.inr (.inr (.inr (fun _ => none)))))), .inr (9, [.ref 4, .int 0]), .inl (0, (16, .inl (fun _ => 0))), .inr (3, [.ref 6, .ref 7]), .inl (0, (31, .inl (fun _ => 0))), .inl (0, (441, .inl (fun _ => 0))), .inl (4, (8, .inr (.inr (.inr (.inr (fun _ => none)))))), .inr (7, [.ref 10, .ref 11, .ref 12, .int 0]), .inl (0, (7, .inl (fun q => if q < 7 then -1 else 0))), .inl (0, (6, .inl (fun _ => 0))), .inl (1, (201, .inl (fun _ => 0)))]
def HS0 : Nat → lk_H
  | 0 => []
  | k + 1 => HS0 k ++ [.inr (8, [.ref (14 + 2 * k), .int 1, .int 0, .int 0]), .inl (0, (60, .inl (fun _ => 0)))]
def HX (f : Nat → Option Nat) (k : Nat) : lk_H := HB0 f ++ HS0 k
section INIT
variable {X : lk_X} {d : Nat} {h : lk_H}
theorem S_tr_init {a : Nat} (ha : (h ++ [.inl (0, (16, .inl (fun _ => 0)))] : lk_H)[a]? = some (.inr (9, [.null, .int 0]))) : lk_ev X (d + 1) 61 [.ref a] h none ((h ++ [.inl (0, (16, .inl (fun _ => 0)))] : lk_H).set a (.inr (9, [.ref h.length, .int 0]))) := by
  refine E_tr_init ?_
  rw [show (16 : Int32) = nI 16 from rfl, nw_nI (by omega), nI_clamp (by omega)]
  exact ⟨9, _, ha, rfl, rfl, by decide, rfl, rfl⟩
theorem S_mv_init {a : Nat} (ha : (h ++ [.inl (0, (31, .inl (fun _ => 0)))] : lk_H)[a]? = some (.inr (3, [.null, .null]))) (ha2 : a < h.length) : lk_ev X (d + 1) 19 [.ref a] h none ((h ++ [.inl (0, (31, .inl (fun _ => 0)))] ++ [.inl (0, (441, .inl (fun _ => 0)))] : lk_H).set a (.inr (3, [.ref h.length, .ref (h.length + 1)]))) := by
  refine E_mv_init ?_
  rw [show (31 : Int32) = nI 31 from rfl, nw_nI (by omega), nI_clamp (by omega)]
  refine ⟨3, _, ha, rfl, rfl, Nat.le_of_ble_eq_true rfl, ?_⟩
  dsimp only
  rw [show (441 : Int32) = nI 441 from rfl, nw_nI (by omega), nI_clamp (by omega)]
  refine ⟨3, [.ref h.length, .null], ?_, rfl, rfl, Nat.le_of_ble_eq_true rfl, rfl, ?_⟩
  · rw [List.getElem?_append_left (by rw [List.length_set, List.length_append]; show a < h.length + 1; omega), set_at ha]
    rfl
  · have ha3 : a < (h ++ [.inl (0, (31, .inl (fun _ => 0)))] : lk_H).length := by
      rw [List.length_append]
      show a < h.length + 1
      omega
    rw [List.length_set, List.length_append, List.set_append_left _ _ (by rw [List.length_set]; exact ha3), List.set_set]
    exact (List.set_append_left _ _ ha3).symm
theorem S_s_init {a : Nat} (ha : (h ++ [.inl (0, (60, .inl (fun _ => 0)))] : lk_H)[a]? = some (.inr (8, [.null, .int 0, .int 0, .int 0]))) : lk_ev X (d + 1) 50 [.ref a] h none ((h ++ [.inl (0, (60, .inl (fun _ => 0)))] : lk_H).set a (.inr (8, [.ref h.length, .int 1, .int 0, .int 0]))) := by
  refine E_s_init ?_
  rw [show (60 : Int32) = nI 60 from rfl, nw_nI (by omega), nI_clamp (by omega)]
  refine ⟨8, _, ha, rfl, rfl, Nat.le_of_ble_eq_true rfl, 8, [.ref h.length, .int 0, .int 0, .int 0], ?_, rfl, rfl, Nat.le_of_ble_eq_true rfl, rfl, ?_⟩
  · rw [set_at ha]
    rfl
  · rw [List.set_set]
    rfl
theorem C_sheet0 {Q : Option Value → lk_H → Prop} {f : Nat → Option Nat} {k : Nat} (hk : k < 8) (H : lk_wp X (d + 2) 65 71 [.ref 0, .int (nI (k + 1))] [] (HX (va_up f k (some (13 + 2 * k))) (k + 1)) Q) : lk_wp X (d + 2) 65 71 [.ref 0, .int (nI k)] [] (HX f k) Q := by
  refine F_x_init_71 (br_f (nI_ge (b := 8) (by omega) (by omega)) ⟨10, _, 1, rfl, rfl, rfl, ?_⟩)
  rw [nI_1]
  match k, hk, H with
  | 0, _, H =>
    refine ⟨⟨_, rfl⟩, ?_⟩
    rw [show (HX f 0).length = 13 from rfl]
    refine (S_s_init (d := d) (a := 13) (by rfl)).iffv.mpr ?_
    exact ⟨2, 8, f, 8, _, rfl, vp_in_nI (n := 0) (by omega) (by omega), rfl, rfl, H⟩
  | 1, _, H =>
    refine ⟨⟨_, rfl⟩, ?_⟩
    rw [show (HX f 1).length = 15 from rfl]
    refine (S_s_init (d := d) (a := 15) (by rfl)).iffv.mpr ?_
    exact ⟨2, 8, f, 8, _, rfl, vp_in_nI (n := 1) (by omega) (by omega), rfl, rfl, H⟩
  | 2, _, H =>
    refine ⟨⟨_, rfl⟩, ?_⟩
    rw [show (HX f 2).length = 17 from rfl]
    refine (S_s_init (d := d) (a := 17) (by rfl)).iffv.mpr ?_
    exact ⟨2, 8, f, 8, _, rfl, vp_in_nI (n := 2) (by omega) (by omega), rfl, rfl, H⟩
  | 3, _, H =>
    refine ⟨⟨_, rfl⟩, ?_⟩
    rw [show (HX f 3).length = 19 from rfl]
    refine (S_s_init (d := d) (a := 19) (by rfl)).iffv.mpr ?_
    exact ⟨2, 8, f, 8, _, rfl, vp_in_nI (n := 3) (by omega) (by omega), rfl, rfl, H⟩
  | 4, _, H =>
    refine ⟨⟨_, rfl⟩, ?_⟩
    rw [show (HX f 4).length = 21 from rfl]
    refine (S_s_init (d := d) (a := 21) (by rfl)).iffv.mpr ?_
    exact ⟨2, 8, f, 8, _, rfl, vp_in_nI (n := 4) (by omega) (by omega), rfl, rfl, H⟩
  | 5, _, H =>
    refine ⟨⟨_, rfl⟩, ?_⟩
    rw [show (HX f 5).length = 23 from rfl]
    refine (S_s_init (d := d) (a := 23) (by rfl)).iffv.mpr ?_
    exact ⟨2, 8, f, 8, _, rfl, vp_in_nI (n := 5) (by omega) (by omega), rfl, rfl, H⟩
  | 6, _, H =>
    refine ⟨⟨_, rfl⟩, ?_⟩
    rw [show (HX f 6).length = 25 from rfl]
    refine (S_s_init (d := d) (a := 25) (by rfl)).iffv.mpr ?_
    exact ⟨2, 8, f, 8, _, rfl, vp_in_nI (n := 6) (by omega) (by omega), rfl, rfl, H⟩
  | 7, _, H =>
    refine ⟨⟨_, rfl⟩, ?_⟩
    rw [show (HX f 7).length = 27 from rfl]
    refine (S_s_init (d := d) (a := 27) (by rfl)).iffv.mpr ?_
    exact ⟨2, 8, f, 8, _, rfl, vp_in_nI (n := 7) (by omega) (by omega), rfl, rfl, H⟩
theorem sh_all : va_up (va_up (va_up (va_up (va_up (va_up (va_up (va_up (fun _ => none) 0 (some (13 + 2 * 0))) 1 (some (13 + 2 * 1))) 2 (some (13 + 2 * 2))) 3 (some (13 + 2 * 3))) 4 (some (13 + 2 * 4))) 5 (some (13 + 2 * 5))) 6 (some (13 + 2 * 6))) 7 (some (13 + 2 * 7)) = hp_sh := by
  funext q
  match q with
  | 0 => rfl
  | 1 => rfl
  | 2 => rfl
  | 3 => rfl
  | 4 => rfl
  | 5 => rfl
  | 6 => rfl
  | 7 => rfl
  | q + 8 =>
    unfold hp_sh
    rw [if_neg (by omega), va_up_ne _ _ (by omega), va_up_ne _ _ (by omega), va_up_ne _ _ (by omega), va_up_ne _ _ (by omega), va_up_ne _ _ (by omega), va_up_ne _ _ (by omega), va_up_ne _ _ (by omega), va_up_ne _ _ (by omega)]
theorem S_rs_init : lk_ev X (d + 2) 45 [.ref 9] ([.inr (10, [.ref 1, .ref 2, .ref 3, .ref 5, .ref 8, .null, .int 0]), .inl (2, (8, .inr (.inr (.inr (.inr (fun _ => none)))))), .inl (3, (10, .inr (.inr (.inr (.inr (fun _ => none)))))), .inr (9, [.ref 4, .int 0]), .inl (0, (16, .inl (fun _ => 0))), .inr (3, [.ref 6, .ref 7]), .inl (0, (31, .inl (fun _ => 0))), .inl (0, (441, .inl (fun _ => 0))), .inl (4, (8, .inr (.inr (.inr (.inr (fun _ => none)))))), .inr (7, [.null, .null, .null, .int 0])] : lk_H) none ([.inr (10, [.ref 1, .ref 2, .ref 3, .ref 5, .ref 8, .null, .int 0]), .inl (2, (8, .inr (.inr (.inr (.inr (fun _ => none)))))), .inl (3, (10, .inr (.inr (.inr (.inr (fun _ => none)))))), .inr (9, [.ref 4, .int 0]), .inl (0, (16, .inl (fun _ => 0))), .inr (3, [.ref 6, .ref 7]), .inl (0, (31, .inl (fun _ => 0))), .inl (0, (441, .inl (fun _ => 0))), .inl (4, (8, .inr (.inr (.inr (.inr (fun _ => none)))))), .inr (7, [.ref 10, .ref 11, .ref 12, .int 0]), .inl (0, (7, .inl (fun q => if q < 7 then -1 else 0))), .inl (0, (6, .inl (fun _ => 0))), .inl (1, (201, .inl (fun _ => 0)))] : lk_H) := by
  refine E_rs_init ⟨by decide, 7, _, rfl, rfl, rfl, Nat.le_of_ble_eq_true rfl, by decide, 7, _, rfl, rfl, rfl, Nat.le_of_ble_eq_true rfl, by decide, 7, _, rfl, rfl, rfl, Nat.le_of_ble_eq_true rfl, 7, _, 10, rfl, rfl, rfl, ?_⟩
  exact (S_ja_fill (a := 10) (n := 7) (v := -1) (f := fun _ => 0) (by decide) (by rfl)).iffv.mpr ⟨rfl, rfl⟩
theorem C_init : lk_ev X (d + 3) 65 [.ref 0] [.inr (10, [.null, .null, .null, .null, .null, .null, .int 0])] none (HX hp_sh 8) := by
  refine E_x_init ⟨by decide, 10, _, rfl, rfl, rfl, Nat.le_of_ble_eq_true rfl, by decide, 10, _, rfl, rfl, rfl, Nat.le_of_ble_eq_true rfl, ⟨_, rfl⟩, ?_⟩
  refine (S_tr_init (d := d + 1) (a := 3) (by rfl)).iffv.mpr ?_
  refine ⟨10, _, rfl, rfl, rfl, Nat.le_of_ble_eq_true rfl, ⟨_, rfl⟩, ?_⟩
  refine (S_mv_init (d := d + 1) (a := 5) (by rfl) (by exact Nat.le_of_ble_eq_true rfl)).iffv.mpr ?_
  refine ⟨10, _, rfl, rfl, rfl, Nat.le_of_ble_eq_true rfl, by decide, 10, _, rfl, rfl, rfl, Nat.le_of_ble_eq_true rfl, ⟨_, rfl⟩, ?_⟩
  refine (S_rs_init (d := d)).iffv.mpr ?_
  refine ⟨10, _, rfl, rfl, rfl, Nat.le_of_ble_eq_true rfl, 10, _, rfl, rfl, rfl, Nat.le_of_ble_eq_true rfl, ?_⟩
  have step : lk_wp X (d + 3) 65 71 [.ref 0, .int (nI 0)] [] (HX (fun _ => none) 0) (fun w g => w = none ∧ g = HX hp_sh 8) := by
    refine C_sheet0 (d := d + 1) (k := 0) (by decide) (C_sheet0 (d := d + 1) (k := 1) (by decide) (C_sheet0 (d := d + 1) (k := 2) (by decide) (C_sheet0 (d := d + 1) (k := 3) (by decide) (C_sheet0 (d := d + 1) (k := 4) (by decide) (C_sheet0 (d := d + 1) (k := 5) (by decide) (C_sheet0 (d := d + 1) (k := 6) (by decide) (C_sheet0 (d := d + 1) (k := 7) (by decide) ?_)))))))
    refine F_x_init_71 (br_t (by decide) ⟨rfl, ?_⟩)
    rw [sh_all]
  exact step
theorem M_init : lk_ev X (d + 1) 111 [.ref 29] (HX hp_sh 8 ++ [.inr (11, [.null, .null, .null, .null, .null, .null, .null, .int 0, .null, .int 0, .null, .null, .null, .null, .int 0, .null, .null])]) none (hp xz no no mz []) := by
  refine E_m_init ?_
  refine ⟨by decide, 11, _, rfl, rfl, rfl, Nat.le_of_ble_eq_true rfl, ?_⟩
  refine ⟨by decide, 11, _, rfl, rfl, rfl, Nat.le_of_ble_eq_true rfl, ?_⟩
  refine ⟨by decide, 11, _, rfl, rfl, rfl, Nat.le_of_ble_eq_true rfl, ?_⟩
  refine ⟨by decide, 11, _, rfl, rfl, rfl, Nat.le_of_ble_eq_true rfl, ?_⟩
  refine ⟨by decide, 11, _, rfl, rfl, rfl, Nat.le_of_ble_eq_true rfl, ?_⟩
  refine ⟨by decide, 11, _, rfl, rfl, rfl, Nat.le_of_ble_eq_true rfl, ?_⟩
  refine ⟨by decide, 11, _, rfl, rfl, rfl, Nat.le_of_ble_eq_true rfl, ?_⟩
  refine ⟨by decide, 11, _, rfl, rfl, rfl, Nat.le_of_ble_eq_true rfl, ?_⟩
  refine ⟨by decide, 11, _, rfl, rfl, rfl, Nat.le_of_ble_eq_true rfl, ?_⟩
  refine ⟨by decide, 11, _, rfl, rfl, rfl, Nat.le_of_ble_eq_true rfl, ?_⟩
  refine ⟨by decide, 11, _, rfl, rfl, rfl, Nat.le_of_ble_eq_true rfl, ?_⟩
  refine ⟨by decide, 11, _, rfl, rfl, rfl, Nat.le_of_ble_eq_true rfl, ?_⟩
  refine ⟨by decide, 11, _, rfl, rfl, rfl, Nat.le_of_ble_eq_true rfl, ?_⟩
  refine ⟨by decide, 11, _, rfl, rfl, rfl, Nat.le_of_ble_eq_true rfl, ?_⟩
  exact ⟨rfl, rfl⟩
theorem Rel0 : Rel xz no no mz [] := by
  refine ⟨fun k hk => Or.inl ⟨?_, rfl⟩, ⟨rfl, 0, by decide, rfl, rfl, fun i hi => by omega⟩, fun p hp => Or.inl ⟨rfl, rfl⟩, fun n h1 h7 => ⟨Or.inl rfl, Or.inl ⟨rfl, rfl⟩⟩, rfl, fun i hi => rfl, fun n h1 h6 => Or.inl ?_, 0, by decide, rfl, fun n h1 h6 hb => ?_⟩
  · unfold xz
    rw [if_neg (by omega), if_pos (by omega)]
  · unfold xz
    rw [if_pos rfl, if_pos (by omega)]
  · rw [Nat.zero_div] at hb
    cases hb
end INIT
