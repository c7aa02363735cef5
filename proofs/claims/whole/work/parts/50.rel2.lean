/-! what ties both sides as a whole -/
def gl (l : List Nat) : Nat → Nat := fun i => l.getD i 0
/-- no way to the row has come ahead -/
def lupB (g : Nat → Nat) (row : Nat) : Bool := !(an (fun e => decide (g row = g (row - e)) || an (fun k => decide (g k + g (row - e) = g (k - e) + g row)) e (row - e)) 1 row)
def srch (n : Nat) : Nat → List Nat → List (List Nat)
  | 0, l => [l]
  | f + 1, l => (List.range n).flatMap (fun c => if lupB (gl (l ++ [c])) l.length = true then srch n f (l ++ [c]) else [])
/-- all lonely orders of n rows -/
def lns (n : Nat) : List (List Nat) := srch n n []
def cod (l : List Nat) : Nat := l.foldl (fun c v => 8 * c + v) 0
/-- one row of what a turn comes to -/
def tn4 (n t : Nat) (g : Nat → Nat) (k : Nat) : Nat := if t / 2 % 2 = 1 then n - 1 - g (if t % 2 = 1 then n - 1 - k else k) else g (if t % 2 = 1 then n - 1 - k else k)
def tnd (n t : Nat) (g : Nat → Nat) (k : Nat) : Nat := if t < 4 then tn4 n t g k else (sr (fun r => if tn4 n t g r = k then some r else none) 0 n).getD 0
def frst (n : Nat) (l : List Nat) : Bool := !(an (fun t => decide (cod ((List.range n).map (tnd n t (gl l))) < cod l)) 1 7)
def cnt (n : Nat) : Nat := (lns n).length
def cnt2 (n : Nat) : Nat := ((lns n).filter (frst n)).length
def LL (dyn : lk_H) (a n : Nat) : Prop := ∃ b1 b2 b3 f1 f3, dyn[a]? = some (.inr (1, [.ref (44 + b1), .ref (44 + b2), .ref (44 + b3), .int (nI (cnt n)), .int (nI (cnt2 n))])) ∧ dyn[b1]? = some (.inl (0, (n, .inl f1))) ∧ dyn[b3]? = some (.inl (0, (200, .inl f3))) ∧ ∀ i, i < cnt n → f3 i = nI (cod ((lns n).getD i []))
def RLn (L : Nat → Option Nat) (dyn : lk_H) (m : Nat → Nat → Int32) : Prop := ∀ n, 1 ≤ n → n ≤ 7 → (L n = none ∨ ∃ a, L n = some (44 + a) ∧ LL dyn a n) ∧ ((m 10 n = 0 ∧ m 11 n = 0) ∨ (m 10 n = nI (cnt n) ∧ m 11 n = nI (cnt2 n)))
/-- the greatest mark of the shortest rulers -/
def sho (n : Nat) : Nat := [0, 0, 1, 3, 6, 11, 17].getD n 0
def RR (x m : Nat → Nat → Int32) : Prop := x 6 0 = 0 ∧ (∀ i, i < 201 → x 7 i = 0) ∧ (∀ n, 1 ≤ n → n ≤ 6 → x 5 n = -1 ∨ x 5 n = nI (sho n)) ∧ ∃ K : Nat, K < 128 ∧ m 16 0 = nI K ∧ ∀ n, 1 ≤ n → n ≤ 6 → K / 2 ^ n % 2 = 1 → m 12 n = nI (sho n)
def Rel (x : Nat → Nat → Int32) (S L : Nat → Option Nat) (m : Nat → Nat → Int32) (dyn : lk_H) : Prop := RS x m ∧ RT x m ∧ RG S dyn m ∧ RLn L dyn m ∧ RR x m
theorem RLn.congr {L : Nat → Option Nat} {dyn dyn' : lk_H} {m m' : Nat → Nat → Int32} (h : RLn L dyn m) (hd : ∀ (k : Nat) (v : va_E), dyn[k]? = some v → dyn'[k]? = some v) (h1 : m' 10 = m 10) (h2 : m' 11 = m 11) : RLn L dyn' m' := by
  intro n h3 h4
  rw [h1, h2]
  obtain ⟨q1, q2⟩ := h n h3 h4
  refine ⟨?_, q2⟩
  rcases q1 with q1 | ⟨a, q1, b1, b2, b3, f1, f3, q3, q4, q5, q6⟩
  · exact Or.inl q1
  · exact Or.inr ⟨a, q1, b1, b2, b3, f1, f3, hd _ _ q3, hd _ _ q4, hd _ _ q5, q6⟩
theorem RR.congr {x x' m m' : Nat → Nat → Int32} (h : RR x m) (h5 : x' 5 = x 5) (h6 : x' 6 = x 6) (h7 : x' 7 = x 7) (h12 : m' 12 = m 12) (h16 : m' 16 = m 16) : RR x' m' := by
  unfold RR
  rw [h5, h6, h7, h12, h16]
  exact h
/-- both sides answer alike and are tied again -/
def TE (X : lk_X) (d kx km : Nat) (as : List Value) (x : Nat → Nat → Int32) (S L : Nat → Option Nat) (m : Nat → Nat → Int32) (dyn : lk_H) : Prop :=
  ∃ r x' S' L' m' l, lk_ev X d kx (.ref 0 :: as) (hp x S L m dyn) (some (.int r)) (hp x' S' L' m (dyn ++ l)) ∧ lk_ev X d km (.ref 29 :: as) (hp x' S' L' m (dyn ++ l)) (some (.int r)) (hp x' S' L' m' (dyn ++ l)) ∧ Rel x' S' L' m' (dyn ++ l) ∧ l.length ≤ 8 ∧ lk_sz l ≤ 400
section REL
variable {X : lk_X} {d : Nat} {x : Nat → Nat → Int32} {S L : Nat → Option Nat} {m : Nat → Nat → Int32} {dyn : lk_H} {kx km : Nat} {as : List Value}
theorem Rel.of (h : Rel x S L m dyn) {x' m' : Nat → Nat → Int32} (h1 : RS x' m') (h2 : KS x x' m m') : Rel x' S L m' dyn := ⟨h1, h.2.1.congr h2.2.2 (h2.1 1 (by decide) (by decide)) (h2.1 2 (by decide) (by decide)) (h2.2.1 15 (by decide) (by decide)) (h2.2.1 7 (by decide) (by decide)), h.2.2.1.congr (fun _ _ q => q) (fun p _ => by rw [h2.2.1 4 (by decide) (by decide)]) (fun p _ => by rw [h2.2.1 5 (by decide) (by decide)]) (fun p _ => by rw [h2.2.1 6 (by decide) (by decide)]), h.2.2.2.1.congr (fun _ _ q => q) (h2.2.1 10 (by decide) (by decide)) (h2.2.1 11 (by decide) (by decide)), h.2.2.2.2.congr (h2.1 5 (by decide) (by decide)) (h2.1 6 (by decide) (by decide)) (h2.1 7 (by decide) (by decide)) (h2.2.1 12 (by decide) (by decide)) (h2.2.1 16 (by decide) (by decide))⟩
theorem Rel.st (h : Rel x S L m dyn) (v : Int32) : Rel (ms x 0 0 v) S L (ms m 14 0 v) dyn := h.of (h.1.st v) (KS.st v)
theorem TE.mk0 {r : Int32} {x' m' : Nat → Nat → Int32} {S' L' : Nat → Option Nat} (h1 : lk_ev X d kx (.ref 0 :: as) (hp x S L m dyn) (some (.int r)) (hp x' S' L' m dyn)) (h2 : lk_ev X d km (.ref 29 :: as) (hp x' S' L' m dyn) (some (.int r)) (hp x' S' L' m' dyn)) (h3 : Rel x' S' L' m' dyn) : TE X d kx km as x S L m dyn := by
  have e : dyn ++ [] = dyn := List.append_nil dyn
  refine ⟨r, x', S', L', m', [], ?_, ?_, ?_, by decide, by decide⟩
  · rw [e]; exact h1
  · rw [e]; exact h2
  · rw [e]; exact h3
theorem TE.ti (h : Rel x S L m dyn) (ht : ∃ r x' m', TI X d kx km as x S L m dyn r x' m' ∧ RS x' m' ∧ KS x x' m m') : TE X d kx km as x S L m dyn := by
  obtain ⟨r, x', m', h1, h2, h3⟩ := ht
  exact TE.mk0 h1.1 h1.2 (h.of h2 h3)
/-- what lies at a place -/
theorem TH.isC {c n : Nat} {g : Nat → Nat} (h : TH c n g) : isC c := by
  rcases h with ⟨-, rfl⟩ | ⟨-, rfl⟩
  · split
    · exact Or.inr (Or.inr (Or.inl rfl))
    · exact Or.inl rfl
  · split
    · exact Or.inr (Or.inl rfl)
    · split
      · exact Or.inr (Or.inr (Or.inr (Or.inl rfl)))
      · exact Or.inr (Or.inr (Or.inr (Or.inr rfl)))
theorem TH.n16 {c n : Nat} {g : Nat → Nat} (h : TH c n g) : 1 ≤ n ∧ n ≤ 16 := by
  rcases h with ⟨q, -⟩ | ⟨q, -⟩
  · exact ⟨q.1, q.2.1⟩
  · have := q.2.1
    exact ⟨q.1, by omega⟩
theorem TH.g200 {c n : Nat} {g : Nat → Nat} (h : TH c n g) {i : Nat} (hi : i < n) : g i ≤ 200 := by
  rcases h with ⟨q, -⟩ | ⟨q, -⟩
  · have := q.2.2.1 i hi
    have := q.2.1
    omega
  · exact q.2.2.1 i hi
theorem TH.ord {c n : Nat} {g : Nat → Nat} (h : TH c n g) (hc : oc c = true) : OR n g := by
  rcases h with ⟨q, -⟩ | ⟨q, rfl⟩
  · exact q
  · exfalso
    revert hc
    split
    · decide
    · split <;> decide
theorem TH.mar {c n : Nat} {g : Nat → Nat} (h : TH c n g) (hc : oc c = false) : MK n g := by
  rcases h with ⟨q, rfl⟩ | ⟨q, -⟩
  · exfalso
    revert hc
    split <;> decide
  · exact q
theorem TH.rise {c n : Nat} {g : Nat → Nat} (h : TH c n g) : rise c n g := fun q => (h.mar q).2.2.2
theorem TH.alk {c n : Nat} {g : Nat → Nat} (h : TH c n g) : alk (oc c) n g = alkC (oc c) n g := by
  cases hc : oc c with
  | true => exact alk_eq nsame_OR
  | false => exact alk_eq (nsame_MK (h.mar hc))
theorem RG.get (h : RG S dyn m) {p : Nat} (hpp : p < 10) : (S p = none ∧ m 4 p = 0) ∨ ∃ a c b n g, S p = some (44 + a) ∧ (∀ (x' : Nat → Nat → Int32) (S' L' : Nat → Option Nat) (m' : Nat → Nat → Int32) (l : lk_H), tr (hp x' S' L' m' (dyn ++ l)) (44 + a) c (44 + b) n g) ∧ TH c n g ∧ m 4 p = nI (kc c) ∧ mth m p n g := by
  rcases h p hpp with q | ⟨a, c, n, g, q1, ⟨b, f, q2, q3, q4⟩, q5, q6, q7, q8⟩
  · exact Or.inl q
  · refine Or.inr ⟨a, c, b, n, g, q1, fun x' S' L' m' l => ⟨?_, q8.isC, q8.n16.2, f, ?_, fun i hi => ⟨q4 i hi, q8.g200 hi⟩⟩, q8, q5, by omega, q8.n16.2, q6, fun i hi => ⟨q7 i hi, q8.g200 hi⟩⟩
    · rw [hp_dyn, List.getElem?_append_left (List.getElem?_eq_some_iff.mp q2).1]
      exact q2
    · rw [hp_dyn, List.getElem?_append_left (List.getElem?_eq_some_iff.mp q3).1]
      exact q3
/-- how a thing's class is told -/
theorem S_kind {h : lk_H} {a c b n : Nat} {g : Nat → Nat} (ht : tr h a c b n g) {K : Int32 → lk_H → Prop} : lk_vc h a [(0, 1), (2, 15), (4, 31), (5, 40), (6, 43)] (fun k => lk_wxi X (d + 1) k [.ref a] h K) ↔ K (nI (kc c)) h := by
  have h0 : lk_ev X (d + 1) 1 [.ref a] h (some (.int (nI 2))) h := E_l_toldKind ⟨rfl, rfl⟩
  have h2 : lk_ev X (d + 1) 15 [.ref a] h (some (.int (nI 3))) h := E_k_toldKind ⟨rfl, rfl⟩
  have h4 : lk_ev X (d + 1) 31 [.ref a] h (some (.int (nI 1))) h := E_o_toldKind ⟨rfl, rfl⟩
  have h5 : lk_ev X (d + 1) 40 [.ref a] h (some (.int (nI 5))) h := E_p_toldKind ⟨rfl, rfl⟩
  have h6 : lk_ev X (d + 1) 43 [.ref a] h (some (.int (nI 4))) h := E_r_toldKind ⟨rfl, rfl⟩
  obtain ⟨t1, t2, t3⟩ := ht
  constructor
  · rintro ⟨c, fs, k, q1, q2, q3⟩
    rw [t1] at q1
    rcases t2 with rfl | rfl | rfl | rfl | rfl
    · cases q1; cases q2; exact h0.iffi.mp q3
    · cases q1; cases q2; exact h2.iffi.mp q3
    · cases q1; cases q2; exact h4.iffi.mp q3
    · cases q1; cases q2; exact h5.iffi.mp q3
    · cases q1; cases q2; exact h6.iffi.mp q3
  · intro q
    rcases t2 with rfl | rfl | rfl | rfl | rfl
    · exact ⟨_, _, _, t1, rfl, h0.iffi.mpr q⟩
    · exact ⟨_, _, _, t1, rfl, h2.iffi.mpr q⟩
    · exact ⟨_, _, _, t1, rfl, h4.iffi.mpr q⟩
    · exact ⟨_, _, _, t1, rfl, h5.iffi.mpr q⟩
    · exact ⟨_, _, _, t1, rfl, h6.iffi.mpr q⟩
theorem S_x_shelve {A c b n p : Nat} {g : Nat → Nat} (hpp : p < 10) (ht : ∀ (x' : Nat → Nat → Int32) (S' : Nat → Option Nat), tr (hp x' S' L m dyn) A c b n g) : lk_ev X (d + 2) 98 [.ref 0, .int (nI p), .ref A] (hp x S L m dyn) (some (.int (nI (kc c)))) (hp (ms x 0 0 0) (va_up S p (some A)) L m dyn) := by
  refine E_x_shelve ?_
  have hc : lk_cm 3 c = true := by rcases (ht x S).2.1 with rfl | rfl | rfl | rfl | rfl <;> rfl
  rw [hp_f0_1, hp_rs2 (ht x S).1 hc, nI_clamp (by omega)]
  refine ⟨vp_in_nI (by omega) (by omega), ?_⟩
  rw [S_kind (ht _ _), hp_v0, S_x_settled.iffi]
  exact ⟨rfl, rfl⟩
/-- what the reference may have scribbled on while making -/
def SC (m m1 : Nat → Nat → Int32) : Prop := (∀ p, p < 10 → m1 4 p = m 4 p ∧ m1 5 p = m 5 p) ∧ (∀ q, q < 160 → m1 6 q = m 6 q) ∧ ∀ c, ¬ c = 4 → ¬ c = 5 → ¬ c = 6 → ¬ c = 8 → ¬ c = 9 → m1 c = m c
theorem SC.rf : SC m m := ⟨fun _ _ => ⟨rfl, rfl⟩, fun _ _ => rfl, fun _ _ _ _ _ _ => rfl⟩
theorem SC.rel (h : Rel x S L m dyn) {m1 : Nat → Nat → Int32} (hs : SC m m1) : Rel x S L m1 dyn := by
  obtain ⟨h1, h2, h3, h4, h5⟩ := h
  obtain ⟨s1, s2, s3⟩ := hs
  exact ⟨h1.congr (fun _ _ => rfl) (s3 0 (by decide) (by decide) (by decide) (by decide) (by decide)) (s3 1 (by decide) (by decide) (by decide) (by decide) (by decide)) (s3 2 (by decide) (by decide) (by decide) (by decide) (by decide)),
    h2.congr (by rw [s3 14 (by decide) (by decide) (by decide) (by decide) (by decide)]; exact h2.1) rfl rfl (s3 15 (by decide) (by decide) (by decide) (by decide) (by decide)) (s3 7 (by decide) (by decide) (by decide) (by decide) (by decide)),
    h3.congr (fun _ _ q => q) (fun p q => (s1 p q).1) (fun p q => (s1 p q).2) s2,
    h4.congr (fun _ _ q => q) (s3 10 (by decide) (by decide) (by decide) (by decide) (by decide)) (s3 11 (by decide) (by decide) (by decide) (by decide) (by decide)),
    h5.congr rfl rfl rfl (s3 12 (by decide) (by decide) (by decide) (by decide) (by decide)) (s3 16 (by decide) (by decide) (by decide) (by decide) (by decide))⟩
/-- a thing was shelved -/
theorem Rel.keep (h : Rel x S L m dyn) {m1 m' : Nat → Nat → Int32} {o : Bool} {p n a b : Nat} {g : Nat → Nat} {l : lk_H} {f : Nat → Int32} (hpp : p < 10) (hs : SC m m1) (hk : KP m1 m' p n (kd o n g) g) (ho : okN o n g) (h1 : (dyn ++ l)[a]? = some (.inr (cK o n g, [.ref (44 + b)]))) (h2 : (dyn ++ l)[b]? = some (.inl (0, (n, .inl f)))) (h3 : ∀ i, i < n → f i = nI (g i)) : Rel (ms x 0 0 0) (va_up S p (some (44 + a))) L m' (dyn ++ l) := by
  have hh := SC.rel h hs
  obtain ⟨r1, r2, r3, r4, r5⟩ := hh
  obtain ⟨k1, k2, k3, k4, k5, k6⟩ := hk
  have hd : ∀ (k : Nat) (v : va_E), dyn[k]? = some v → (dyn ++ l)[k]? = some v := fun k v q => by
    rw [List.getElem?_append_left (List.getElem?_eq_some_iff.mp q).1]
    exact q
  have kn : ∀ c, (c ≤ 3 ∨ c = 7 ∨ c = 10 ∨ c = 11 ∨ c = 12 ∨ c = 15 ∨ c = 16) → m' c = m1 c := fun c hc => k5 c (by omega) (by omega) (by omega) (by omega) (by omega)
  refine ⟨r1.congr (fun c hc => ms_ne (by omega)) (kn 0 (by omega)) (kn 1 (by omega)) (kn 2 (by omega)), r2.congr (by rw [ms_same, pk_us, k6]) (ms_ne (by decide)) (ms_ne (by decide)) (kn 15 (by omega)) (kn 7 (by omega)), ?_, r4.congr hd (kn 10 (by omega)) (kn 11 (by omega)), r5.congr (ms_ne (by decide)) (ms_ne (by decide)) (ms_ne (by decide)) (kn 12 (by omega)) (kn 16 (by omega))⟩
  intro q hq
  by_cases hqp : q = p
  · subst hqp
    refine Or.inr ⟨a, cK o n g, n, g, va_up_self _ _ _, ⟨b, f, h1, h2, h3⟩, by rw [k1, cK_kd], k2, k3, cK_TH ho⟩
  · obtain ⟨e4, e5, e6⟩ := k4 q hq hqp
    rw [va_up_ne _ _ hqp, e4, e5]
    rcases r3 q hq with w | ⟨a', c, n', g', w1, ⟨b', f', w2, w3, w4⟩, w5, w6, w7, w8⟩
    · exact Or.inl w
    · refine Or.inr ⟨a', c, n', g', w1, ⟨b', f', hd _ _ w2, hd _ _ w3, w4⟩, w5, w6, fun i hi => ?_, w8⟩
      have := w8.n16.2
      rw [e6 i (by omega)]
      exact w7 i hi
end REL
