/-! ints, and the small methods of both sides -/
def bI (p : Prop) [Decidable p] : Int32 := if p then 1 else 0
theorem bI_eq0 {p : Prop} [Decidable p] : (bI p = 0) ↔ ¬ p := by
  unfold bI
  split
  · rename_i h; exact ⟨fun q => absurd q (by decide), fun q => absurd h q⟩
  · rename_i h; exact ⟨fun _ => h, fun _ => rfl⟩
theorem bI_01 {p : Prop} [Decidable p] : bI p = 0 ∨ bI p = 1 := by
  unfold bI
  split
  · exact Or.inr rfl
  · exact Or.inl rfl
theorem i32_lt {a b : Int32} : a < b ↔ a.toInt < b.toInt := Int32.lt_iff_toInt_lt
theorem i32_le {a b : Int32} : a ≤ b ↔ a.toInt ≤ b.toInt := Int32.le_iff_toInt_le
theorem i32_eq {a b : Int32} : a = b ↔ a.toInt = b.toInt := Int32.toInt_inj.symm
theorem i32_nI {n : Nat} (h : n < 2 ^ 31) : (nI n).toInt = (n : Int) := nI_toInt h
/-- an int in a range is a natural number -/
theorem i32_nat {v : Int32} (h : 0 ≤ v.toInt) : ∃ n : Nat, v = nI n ∧ (n : Int) = v.toInt ∧ n < 2 ^ 31 := by
  obtain ⟨j, h1, h2⟩ := nI_of (x := v) (by rw [i32_lt]; exact Int.not_lt.mpr h)
  exact ⟨j, h2, by rw [h2, i32_nI h1], h1⟩
def mr (m : Nat → Nat → Int32) (c : Nat) (f : Nat → Int32) : Nat → Nat → Int32 := fun c' => if c' = c then f else m c'
section SMALL
variable {X : lk_X} {d : Nat} {h : lk_H} {x : Nat → Nat → Int32} {S L : Nat → Option Nat} {m : Nat → Nat → Int32} {dyn : lk_H}
theorem S_m_in {a b c : Int64} : lk_ev X (d + 1) 112 [.long a, .long b, .long c] h (some (.int (bI (b.toInt ≤ a.toInt ∧ a.toInt ≤ c.toInt)))) h := by
  refine E_m_in ⟨fun q => ⟨?_, rfl⟩, fun q => ⟨fun q2 => ⟨?_, rfl⟩, fun q2 => ⟨?_, rfl⟩⟩⟩
  · rw [lg_cmp_lt, Int64.lt_iff_toInt_lt] at q
    simp only [bI]
    rw [if_neg (by omega)]
  · rw [lg_cmp_gt, Int64.lt_iff_toInt_lt] at q2
    simp only [bI]
    rw [if_neg (by omega)]
  · rw [lg_cmp_lt, Int64.lt_iff_toInt_lt] at q
    rw [lg_cmp_gt, Int64.lt_iff_toInt_lt] at q2
    simp only [bI]
    rw [if_pos (by omega)]
theorem i64_of (v : Int32) : v.toInt64.toInt = v.toInt := Int32.toInt_toInt64 v
theorem S_m_isSheet {v : Int32} : lk_ev X (d + 2) 115 [.int v] h (some (.int (bI (0 ≤ v.toInt ∧ v.toInt ≤ 7)))) h := by
  refine E_m_isSheet ?_
  rw [S_m_in.iffi]
  refine ⟨bI_01, ?_, rfl⟩
  rw [i64_of]
  rfl
theorem S_m_isPlace {v : Int32} : lk_ev X (d + 2) 120 [.int v] h (some (.int (bI (0 ≤ v.toInt ∧ v.toInt ≤ 9)))) h := by
  refine E_m_isPlace ?_
  rw [S_m_in.iffi]
  refine ⟨bI_01, ?_, rfl⟩
  rw [i64_of]
  rfl
theorem S_m_isMove {v : Int32} : lk_ev X (d + 2) 158 [.int v] h (some (.int (bI (-20 ≤ v.toInt ∧ v.toInt ≤ 20)))) h := by
  refine E_m_isMove ?_
  rw [S_m_in.iffi]
  refine ⟨bI_01, ?_, rfl⟩
  rw [i64_of]
  rfl
theorem S_m_finds {v : Int32} : lk_ev X (d + 1) 113 [.ref 29, .int v] (hp x S L m dyn) (some (.int (-1000010 - v))) (hp x S L (ms m 14 0 v) dyn) := by
  refine E_m_finds ?_
  rw [hp_p29_7]
  exact ⟨rfl, rfl⟩
theorem S_m_well {v : Int32} : lk_ev X (d + 1) 114 [.ref 29, .int v] (hp x S L m dyn) (some (.int v)) (hp x S L (ms m 14 0 0) dyn) := by
  refine E_m_well ?_
  rw [hp_p29_7]
  exact ⟨rfl, rfl⟩
theorem S_m_at0 {t k : Nat} (hk : 16 * t + k < 176) : lk_ev X (d + 1) 122 [.ref 29, .int (nI t), .int (nI k)] (hp x S L m dyn) (some (.int (m 6 (16 * t + k)))) (hp x S L m dyn) := by
  refine E_m_at0 ?_
  have e : 16 * nI t + nI k = nI (16 * t + k) := by rw [show (16 : Int32) = nI 16 from rfl, pk_mul, nI_add]
  rw [hp_f29_6, hp_a36, e]
  refine ⟨vp_in_nI hk (by omega), ?_, rfl⟩
  rw [nI_clamp (by omega)]
theorem S_m_make {k : Nat} {v : Int32} (hk : k < 16) : lk_ev X (d + 1) 128 [.ref 29, .int (nI k), .int v] (hp x S L m dyn) none (hp x S L (ms m 6 (160 + k) v) dyn) := by
  refine E_m_make ?_
  have e : 160 + nI k = nI (160 + k) := by rw [show (160 : Int32) = nI 160 from rfl, nI_add]
  rw [hp_f29_6, hp_w36, e, nI_clamp (by omega)]
  exact ⟨vp_in_nI (by omega) (by omega), rfl, rfl⟩
/-! the class -/
theorem S_x_isSheet {v : Int32} : lk_ev X (d + 1) 94 [.int v] h (some (.int (bI (0 ≤ v.toInt ∧ v.toInt ≤ 7)))) h := by
  have e : (8 : Int32).toInt = 8 := rfl
  have e0 : (0 : Int32).toInt = 0 := rfl
  refine E_x_isSheet ⟨fun q => ⟨?_, rfl⟩, fun q => ⟨fun q2 => ⟨?_, rfl⟩, fun q2 => ⟨?_, rfl⟩⟩⟩
  · rw [i32_lt] at q; simp only [bI]; rw [if_neg (by omega)]
  · rw [i32_le] at q2; simp only [bI]; rw [if_neg (by omega)]
  · rw [i32_lt] at q; rw [i32_le] at q2; simp only [bI]; rw [if_pos (by omega)]
theorem S_x_isPlace {v : Int32} : lk_ev X (d + 1) 95 [.int v] h (some (.int (bI (0 ≤ v.toInt ∧ v.toInt ≤ 9)))) h := by
  have e : (10 : Int32).toInt = 10 := rfl
  have e0 : (0 : Int32).toInt = 0 := rfl
  refine E_x_isPlace ⟨fun q => ⟨?_, rfl⟩, fun q => ⟨fun q2 => ⟨?_, rfl⟩, fun q2 => ⟨?_, rfl⟩⟩⟩
  · rw [i32_lt] at q; simp only [bI]; rw [if_neg (by omega)]
  · rw [i32_le] at q2; simp only [bI]; rw [if_neg (by omega)]
  · rw [i32_lt] at q; rw [i32_le] at q2; simp only [bI]; rw [if_pos (by omega)]
theorem S_x_found {v : Int32} : lk_ev X (d + 1) 96 [.ref 0, .int v] (hp x S L m dyn) (some (.int (-1000010 - v))) (hp (ms x 0 0 v) S L m dyn) := by
  refine E_x_found ?_
  rw [hp_p0_6]
  exact ⟨rfl, rfl⟩
theorem S_x_settled {v : Int32} : lk_ev X (d + 1) 97 [.ref 0, .int v] (hp x S L m dyn) (some (.int v)) (hp (ms x 0 0 0) S L m dyn) := by
  refine E_x_settled ?_
  rw [hp_p0_6]
  exact ⟨rfl, rfl⟩
/-- Arrays.fill -/
theorem S_ja_fill_go {a n : Nat} {v : Int32} {Q : Option Value → lk_H → Prop} (hn : n < 2 ^ 31) : ∀ (k i : Nat), n - i = k → i ≤ n → ∀ (h : lk_H) (f : Nat → Int32), h[a]? = some (.inl (0, (n, .inl f))) → Q none (h.set a (.inl (0, (n, .inl (fun q => if i ≤ q ∧ q < n then v else f q))))) → lk_wp X (d + 1) 170 5 [.ref a, .int v, .int (nI i), .int (nI n)] [] h Q := by
  intro k
  induction k with
  | zero =>
    intro i hk hi h f ha hQ
    refine F_ja_fill_5 ⟨fun _ => ?_, fun q => absurd (show nI n ≤ nI i from by rw [show i = n by omega]; exact nI_le (Nat.le_refl _) hn) q⟩
    have e : (fun q => if i ≤ q ∧ q < n then v else f q) = f := by
      funext q
      rw [if_neg (by omega)]
    rw [e] at hQ
    have e2 : h.set a (.inl (0, (n, .inl f))) = h := by
      apply List.ext_getElem?
      intro q
      rw [List.getElem?_set]
      by_cases hq : a = q
      · subst hq
        rw [if_pos rfl, if_pos (List.getElem?_eq_some_iff.mp ha).1, ha]
      · rw [if_neg hq]
    rw [e2] at hQ
    exact hQ
  | succ k ih =>
    intro i hk hi h f ha hQ
    refine F_ja_fill_5 ⟨fun q => absurd q (nI_ge (by omega) hn), fun _ => ?_⟩
    refine ⟨n, f, ha, vp_in_nI (by omega) hn, ?_⟩
    rw [nI_1, nI_clamp (by omega)]
    have hal : a < h.length := (List.getElem?_eq_some_iff.mp ha).1
    refine ih (i + 1) (by omega) (by omega) _ (upd f i v) (by rw [List.getElem?_set, if_pos rfl, if_pos hal]) ?_
    rw [List.set_set]
    have e : (fun q => if i + 1 ≤ q ∧ q < n then v else upd f i v q) = (fun q => if i ≤ q ∧ q < n then v else f q) := by
      funext q
      by_cases hq : q = i
      · subst hq
        rw [if_neg (by omega), if_pos (by omega), pk_us]
      · rw [pk_un hq]
        by_cases h2 : i ≤ q ∧ q < n
        · rw [if_pos h2, if_pos (by omega)]
        · rw [if_neg h2, if_neg (by omega)]
    rw [e]
    exact hQ
theorem S_ja_fill {a n : Nat} {v : Int32} {f : Nat → Int32} (hn : n < 2 ^ 31) (ha : h[a]? = some (.inl (0, (n, .inl f)))) : lk_ev X (d + 1) 170 [.ref a, .int v] h none (h.set a (.inl (0, (n, .inl (fun q => if q < n then v else f q))))) := by
  refine E_ja_fill ⟨_, _, ha, by decide, ?_⟩
  refine S_ja_fill_go hn n 0 rfl (Nat.zero_le _) h f ha ⟨rfl, ?_⟩
  simp
theorem hp_smr {k : Nat} {f : Nat → Int32} (hk : k < 8) : (hp x S L m dyn).set (14 + 2 * k) (.inl (0, (60, .inl f))) = hp (mr x (10 + k) f) S L m dyn := by
  match k, hk with
  | 0, _ => rfl
  | 1, _ => rfl
  | 2, _ => rfl
  | 3, _ => rfl
  | 4, _ => rfl
  | 5, _ => rfl
  | 6, _ => rfl
  | 7, _ => rfl
theorem S_s_lay {k : Nat} {la n : Int32} (hk : k < 8) : lk_ev X (d + 2) 51 [.ref (13 + 2 * k), .int la, .int n] (hp x S L m dyn) none (hp (mr (ms (ms (ms x (20 + k) 0 0) (30 + k) 0 la) (40 + k) 0 n) (10 + k) (fun q => if q < 60 then 0 else x (10 + k) q)) S L m dyn) := by
  refine E_s_lay ?_
  rw [hp_spf1 hk (Or.inl rfl), hp_spf2 hk, hp_spf3 hk, hp_sfR hk, (S_ja_fill (by decide) (hp_si hk)).iffv, hp_smr hk]
  refine ⟨rfl, ?_⟩
  rw [ms_ne (by omega), ms_ne (by omega), ms_ne (by omega)]
theorem S_s_narrowed {k la : Nat} {v : Int32} (hk : k < 8) (hl : la < 3) (he : x (30 + k) 0 = nI la) : lk_ev X (d + 1) 53 [.ref (13 + 2 * k), .int v] (hp x S L m dyn) (some (.int (if la = 0 then v.toInt8.toInt32 else if la = 1 then v.toInt16.toInt32 else v))) (hp x S L m dyn) := by
  refine E_s_narrowed ?_
  rw [hp_sfI2 hk, he]
  match la, hl with
  | 0, _ => exact ⟨fun _ => ⟨rfl, rfl⟩, fun q => absurd rfl q⟩
  | 1, _ => exact ⟨fun q => absurd q (by decide), fun _ => ⟨fun _ => ⟨rfl, rfl⟩, fun q => absurd rfl q⟩⟩
  | 2, _ => exact ⟨fun q => absurd q (by decide), fun _ => ⟨fun q => absurd q (by decide), fun _ => ⟨rfl, rfl⟩⟩⟩
theorem S_s_holds {k n : Nat} {i c : Int32} (hk : k < 8) (hn : n ≤ 60) (he : x (40 + k) 0 = nI n) : lk_ev X (d + 1) 52 [.ref (13 + 2 * k), .int i, .int c] (hp x S L m dyn) (some (.int (bI (0 ≤ i.toInt ∧ 0 ≤ c.toInt ∧ i.toInt + c.toInt ≤ n)))) (hp x S L m dyn) := by
  have e0 : (0 : Int32).toInt = 0 := rfl
  have en : (nI n).toInt = n := i32_nI (by omega)
  refine E_s_holds ⟨fun q => ⟨?_, rfl⟩, fun q => ⟨fun q2 => ⟨?_, rfl⟩, fun q2 => ?_⟩⟩
  · rw [i32_lt] at q; simp only [bI]; rw [if_neg (by omega)]
  · rw [i32_lt] at q2; simp only [bI]; rw [if_neg (by omega)]
  · rw [hp_sfI3 hk, he]
    rw [i32_lt] at q q2
    refine ⟨fun q3 => ⟨?_, rfl⟩, fun q3 => ?_⟩
    · rw [i32_lt] at q3; simp only [bI]; rw [if_neg (by omega)]
    · rw [hp_sfI3 hk, he]
      rw [i32_lt] at q3
      obtain ⟨cn, rfl, hc, hc2⟩ := i32_nat (v := c) (by omega)
      have es : (nI n - nI cn).toInt = (n : Int) - cn := pk_sub_toInt (by omega) (by omega)
      refine ⟨fun q4 => ⟨?_, rfl⟩, fun q4 => ⟨?_, rfl⟩⟩
      · rw [i32_lt] at q4; simp only [bI]; rw [if_neg (by omega)]
      · rw [i32_lt] at q4; simp only [bI]; rw [if_pos (by omega)]
end SMALL
