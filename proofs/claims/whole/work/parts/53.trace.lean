/-! trace and ask -/
def bx (x : Nat → Nat → Int32) (t : Nat) (v : Int32) : Nat → Nat → Int32 := ms (ms x 2 t v) 1 0 (nI (t + 1))
def bm (m : Nat → Nat → Int32) (t : Nat) (v : Int32) : Nat → Nat → Int32 := ms (ms m 7 t v) 15 0 (nI (t + 1))
theorem bx_1 {x : Nat → Nat → Int32} {t : Nat} {v : Int32} : bx x t v 1 0 = nI (t + 1) := by unfold bx; rw [ms_same, pk_us]
theorem bm_15 {m : Nat → Nat → Int32} {t : Nat} {v : Int32} : bm m t v 15 0 = nI (t + 1) := by unfold bm; rw [ms_same, pk_us]
theorem bx_ne {x : Nat → Nat → Int32} {t : Nat} {v : Int32} {c : Nat} (h1 : ¬ c = 1) (h2 : ¬ c = 2) : bx x t v c = x c := by unfold bx; rw [ms_ne h1, ms_ne h2]
theorem bm_ne {m : Nat → Nat → Int32} {t : Nat} {v : Int32} {c : Nat} (h1 : ¬ c = 7) (h2 : ¬ c = 15) : bm m t v c = m c := by unfold bm; rw [ms_ne h2, ms_ne h1]
/-- what was traced is the same on both sides -/
def TR (x0 x m0 m : Nat → Nat → Int32) (t : Nat) : Prop := (x 1 0 = nI t ∧ m 15 0 = nI t ∧ ∀ i, i < t → x 2 i = m 7 i) ∧ (∀ c, ¬ c = 1 → ¬ c = 2 → x c = x0 c) ∧ ∀ c, ¬ c = 7 → ¬ c = 15 → m c = m0 c
theorem TR.go {x0 x m0 m : Nat → Nat → Int32} {t : Nat} (h : TR x0 x m0 m t) (v : Int32) : TR x0 (bx x t v) m0 (bm m t v) (t + 1) := by
  refine ⟨⟨bx_1, bm_15, fun i hi => ?_⟩, fun c h1 h2 => by rw [bx_ne h1 h2, h.2.1 c h1 h2], fun c h1 h2 => by rw [bm_ne h1 h2, h.2.2 c h1 h2]⟩
  unfold bx bm
  rw [ms_ne (c := 1) (by decide), ms_ne (c := 15) (by decide), ms_same, ms_same]
  by_cases hit : i = t
  · subst hit
    rw [pk_us, pk_us]
  · rw [pk_un hit, pk_un hit]
    exact h.1.2.2 i (by omega)
theorem TR.st (x m : Nat → Nat → Int32) : TR x (ms x 1 0 0) m (ms m 15 0 0) 0 := ⟨⟨by rw [ms_same, pk_us]; rfl, by rw [ms_same, pk_us]; rfl, fun i hi => by omega⟩, fun c h1 _ => ms_ne h1, fun c _ h2 => ms_ne h2⟩
section TRACE
variable {X : lk_X} {d : Nat} {x : Nat → Nat → Int32} {S L : Nat → Option Nat} {m : Nat → Nat → Int32} {dyn : lk_H}
theorem Rel.trc (h : Rel x S L m dyn) {x' m' : Nat → Nat → Int32} {t : Nat} (ht : TR x x' m m' t) (h16 : t ≤ 16) (v : Int32) : Rel (ms x' 0 0 v) S L (ms m' 14 0 v) dyn := by
  obtain ⟨r1, r2, r3, r4, r5⟩ := h
  obtain ⟨⟨t1, t2, t3⟩, t4, t5⟩ := ht
  have nx : ∀ c, ¬ c = 0 → ¬ c = 1 → ¬ c = 2 → ms x' 0 0 v c = x c := fun c h0 h1 h2 => by rw [ms_ne h0, t4 c h1 h2]
  have nm : ∀ c, ¬ c = 7 → ¬ c = 15 → ¬ c = 14 → ms m' 14 0 v c = m c := fun c h0 h1 h2 => by rw [ms_ne h2, t5 c h0 h1]
  refine ⟨r1.congr (fun c hc => nx c (by omega) (by omega) (by omega)) (nm 0 (by decide) (by decide) (by decide)) (nm 1 (by decide) (by decide) (by decide)) (nm 2 (by decide) (by decide) (by decide)), ⟨by rw [ms_same, ms_same, pk_us, pk_us], t, h16, by rw [ms_ne (by decide)]; exact t1, by rw [ms_ne (by decide)]; exact t2, fun i hi => by rw [ms_ne (by decide), ms_ne (by decide)]; exact t3 i hi⟩, r3.congr (fun _ _ q => q) (fun p _ => by rw [nm 4 (by decide) (by decide) (by decide)]) (fun p _ => by rw [nm 5 (by decide) (by decide) (by decide)]) (fun p _ => by rw [nm 6 (by decide) (by decide) (by decide)]), r4.congr (fun _ _ q => q) (nm 10 (by decide) (by decide) (by decide)) (nm 11 (by decide) (by decide) (by decide)), r5.congr (nx 5 (by decide) (by decide) (by decide)) (nx 6 (by decide) (by decide) (by decide)) (nx 7 (by decide) (by decide) (by decide)) (nm 12 (by decide) (by decide) (by decide)) (nm 16 (by decide) (by decide) (by decide))⟩
theorem S_tr_begin {t : Nat} {v : Int32} (hx : x 1 0 = nI t) (ht : t < 16) : lk_ev X (d + 1) 63 [.ref 3, .int v] (hp x S L m dyn) none (hp (bx x t v) S L m dyn) := by
  refine E_tr_begin ?_
  rw [hp_f3_1, hp_f3_0, hp_l4, hx]
  refine br_f (nI_ge (b := 16) ht (by omega)) ?_
  rw [hp_f3_0, hp_f3_1, hx, hp_w4, nI_clamp (by omega)]
  refine ⟨vp_in_nI ht (by omega), ?_⟩
  rw [hp_f3_1, hp_p3_1, ms_ne (by decide), hx, nI_1]
  exact ⟨rfl, rfl⟩
theorem S_m_begins {t : Nat} {v : Int32} (hx : m 15 0 = nI t) (ht : t < 16) : lk_ev X (d + 1) 149 [.ref 29, .int v] (hp x S L m dyn) none (hp x S L (bm m t v) dyn) := by
  refine E_m_begins ?_
  rw [hp_f29_9, hx]
  refine br_f (nI_ge (b := 16) ht (by omega)) ?_
  rw [hp_f29_8, hp_f29_9, hx, hp_w37, nI_clamp (by omega)]
  refine ⟨vp_in_nI ht (by omega), ?_⟩
  rw [hp_f29_9, hp_p29_9, ms_ne (by decide), hx, nI_1]
  exact ⟨rfl, rfl⟩
theorem T_trace (h : Rel x S L m dyn) (v : Int32) : TE X (d + 4) 83 154 [.int v] x S L m dyn := by
  have e0 : (0 : Int32).toInt = 0 := rfl
  have e00 : (0 : Int64).toInt = 0 := rfl
  obtain ⟨-, t, ht, h1, h2, h3⟩ := h.2.1
  have en : (nI t - 1).toInt = (t : Int) - 1 := pk_sub_toInt (a := t) (b := 1) (by omega) (by omega)
  by_cases hv : 0 ≤ v.toInt ∧ v.toInt < t
  · obtain ⟨k, rfl, hk1, -⟩ := i32_nat hv.1
    have hkt : k < t := by omega
    have main : lk_ev X (d + 1) 64 [.ref 3, .int (nI k)] (hp x S L m dyn) (some (.int (x 2 k))) (hp x S L m dyn) := by
      refine E_tr_number (br_f (by rw [i32_lt]; omega) ?_)
      rw [hp_f3_1, h1]
      refine br_f (nI_ge hkt (by omega)) ?_
      rw [hp_f3_0, hp_a4, nI_clamp (by omega)]
      exact ⟨vp_in_nI (by omega) (by omega), rfl, rfl⟩
    refine TE.mk0 (r := x 2 k) (E_x_trace ?_) (E_m_trace ?_) h
    · rw [hp_f0_2, hp_v3, (main.mono (show d + 1 ≤ d + 3 by omega)).iffi]
      exact ⟨rfl, rfl⟩
    · rw [hp_f29_9, h2, S_m_in.iffi, i64_of, i64_of, en]
      refine br_f (bI_t (by rw [e00]; omega)) ?_
      rw [hp_f29_8, hp_a37, nI_clamp (by omega), h3 k hkt]
      exact ⟨vp_in_nI (by omega) (by omega), rfl, rfl⟩
  · have main : lk_ev X (d + 1) 64 [.ref 3, .int v] (hp x S L m dyn) (some (.int (-1000000))) (hp x S L m dyn) := by
      refine E_tr_number ?_
      by_cases hv0 : v.toInt < 0
      · exact br_t (by rw [i32_lt]; omega) ⟨rfl, rfl⟩
      · refine br_f (by rw [i32_lt]; omega) ?_
        rw [hp_f3_1, h1]
        exact br_t (by rw [i32_le, i32_nI (by omega)]; omega) ⟨rfl, rfl⟩
    refine TE.mk0 (r := -1000000) (E_x_trace ?_) (E_m_trace ?_) h
    · rw [hp_f0_2, hp_v3, (main.mono (show d + 1 ≤ d + 3 by omega)).iffi]
      exact ⟨rfl, rfl⟩
    · rw [hp_f29_9, h2, S_m_in.iffi, i64_of, i64_of, en]
      exact br_t (bI_f (by rw [e00]; omega)) ⟨rfl, rfl⟩
/-! the class's bodies -/
variable {a c b n t : Nat} {g : Nat → Nat}
theorem C_o_askSize (hx : x 1 0 = nI t) (ht : t < 16) (hr : ∀ x', tr (hp x' S L m dyn) a c b n g) : lk_ev X (d + 2) 33 [.ref a, .ref 3] (hp x S L m dyn) (some (.int (nI n))) (hp (bx x t 11) S L m dyn) := by
  refine E_o_askSize ?_
  rw [hp_v3, (S_tr_begin hx ht).iffv, (hr _).fR has5, (hr _).2.2.al]
  exact ⟨rfl, rfl⟩
theorem C_t_askSize (hx : x 1 0 = nI t) (ht : t < 16) : lk_ev X (d + 2) 56 [.ref a, .ref 3] (hp x S L m dyn) (some (.int 1)) (hp (bx x t 10) S L m dyn) := by
  refine E_t_askSize ?_
  rw [hp_v3, (S_tr_begin hx ht).iffv]
  exact ⟨rfl, rfl⟩
theorem C_k_askSize (hx : x 1 0 = nI t) (ht : t < 15) (hn : 1 ≤ n) (hr : ∀ x', tr (hp x' S L m dyn) a c b n g) : lk_ev X (d + 3) 17 [.ref a, .ref 3] (hp x S L m dyn) (some (.int (1 + nI (g (n - 1))))) (hp (bx (bx x t 12) (t + 1) 10) S L m dyn) := by
  have h16 := (hr x).2.2.1
  have en : nI n - 1 = nI (n - 1) := by
    rw [i32_eq, show (1 : Int32) = nI 1 from rfl, pk_sub_toInt (by omega) (by omega), i32_nI (by omega)]
    omega
  refine E_k_askSize ?_
  rw [hp_v3, (S_tr_begin hx (by omega)).iffv, ob_of (hr _).1, (C_t_askSize bx_1 (by omega)).iffi, (hr _).fR has3, (hr _).fR has3, (hr _).2.2.al, en, (hr _).2.2.ai (by omega)]
  exact ⟨rfl, rfl⟩
theorem C_r_askSize (hx : x 1 0 = nI t) (ht : t < 14) (hn : 1 ≤ n) (hr : ∀ x', tr (hp x' S L m dyn) a c b n g) : lk_ev X (d + 4) 44 [.ref a, .ref 3] (hp x S L m dyn) (some (.int (2 * (1 + nI (g (n - 1)))))) (hp (bx (bx (bx x t 13) (t + 1) 12) (t + 1 + 1) 10) S L m dyn) := by
  refine E_r_askSize ?_
  rw [hp_v3, (S_tr_begin hx (by omega)).iffv, ob_of (hr _).1, (C_k_askSize bx_1 (by omega) hn hr).iffi]
  exact ⟨rfl, rfl⟩
theorem C_k_askMark (hx : x 1 0 = nI t) (ht : t < 16) (hr : ∀ x', tr (hp x' S L m dyn) a c b n g) : lk_ev X (d + 2) 18 [.ref a, .ref 3] (hp x S L m dyn) (some (.int (nI n))) (hp (bx x t 22) S L m dyn) := by
  refine E_k_askMark ?_
  rw [hp_v3, (S_tr_begin hx ht).iffv, (hr _).fR has3, (hr _).2.2.al]
  exact ⟨rfl, rfl⟩
theorem vc_of {h : lk_H} {a c k : Nat} {fs : List Value} {l : List (Nat × Nat)} {K : Nat → Prop} (h1 : h[a]? = some (.inr (c, fs))) (h2 : lk_find l c = some k) : lk_vc h a l K ↔ K k := by
  constructor
  · rintro ⟨c', fs', k', q1, q2, q3⟩
    rw [h1] at q1
    cases q1
    rw [h2] at q2
    cases q2
    exact q3
  · exact fun q => ⟨_, _, _, h1, h2, q⟩
theorem C_p_askSize (hx : x 1 0 = nI t) (ht : t < 12) (hn : 1 ≤ n) (hr : ∀ x', tr (hp x' S L m dyn) a 5 b n g) : lk_ev X (d + 5) 41 [.ref a, .ref 3] (hp x S L m dyn) (some (.int (2 * (1 + nI (g (n - 1))) + nI n))) (hp (bx (bx (bx (bx (bx x t 14) (t + 1) 13) (t + 1 + 1) 12) (t + 1 + 1 + 1) 10) (t + 1 + 1 + 1 + 1) 22) S L m dyn) := by
  refine E_p_askSize ?_
  rw [hp_v3, (S_tr_begin hx (by omega)).iffv, ob_of (hr _).1, (C_r_askSize bx_1 (by omega) hn hr).iffi, vc_of (hr _).1 rfl, (C_k_askMark bx_1 (by omega) hr).iffi]
  exact ⟨rfl, rfl⟩
theorem C_t_askMark (hx : x 1 0 = nI t) (ht : t < 15) (hc : c = 0 ∨ c = 4) (hr : ∀ x', tr (hp x' S L m dyn) a c b n g) : lk_ev X (d + 3) 57 [.ref a, .ref 3] (hp x S L m dyn) (some (.int (nI n + 4))) (hp (bx (bx x t 20) (t + 1) 11) S L m dyn) := by
  refine E_t_askMark ?_
  rw [hp_v3, (S_tr_begin hx (by omega)).iffv, vc_of (k := 33) (hr _).1 (by rcases hc with rfl | rfl <;> rfl), (C_o_askSize bx_1 (by omega) hr).iffi]
  exact ⟨rfl, rfl⟩
theorem C_l_askMark (hx : x 1 0 = nI t) (ht : t < 14) (hr : ∀ x', tr (hp x' S L m dyn) a 0 b n g) : lk_ev X (d + 4) 2 [.ref a, .ref 3] (hp x S L m dyn) (some (.int (2 * (nI n + 4)))) (hp (bx (bx (bx x t 21) (t + 1) 20) (t + 1 + 1) 11) S L m dyn) := by
  refine E_l_askMark ?_
  rw [hp_v3, (S_tr_begin hx (by omega)).iffv, ob_of (hr _).1, (C_t_askMark bx_1 (by omega) (Or.inl rfl) hr).iffi]
  exact ⟨rfl, rfl⟩
/-! the reference's -/
theorem mth.bm {m : Nat → Nat → Int32} {p : Nat} (h : mth m p n g) (t : Nat) (v : Int32) : mth (bm m t v) p n g := h.congr (bm_ne (by decide) (by decide)) (bm_ne (by decide) (by decide))
theorem M_countMarks {p : Nat} (hx : m 15 0 = nI t) (ht : t < 16) (hm : mth m p n g) : lk_ev X (d + 2) 150 [.ref 29, .int (nI p)] (hp x S L m dyn) (some (.int (nI n))) (hp x S L (bm m t 22) dyn) := by
  have hp10 := hm.1
  refine E_m_countMarks ?_
  rw [hp_v29, (S_m_begins hx ht).iffv, hp_f29_5, hp_a35, nI_clamp (by omega), (hm.bm t 22).2.2.1]
  exact ⟨vp_in_nI (by omega) (by omega), rfl, rfl⟩
theorem M_sizeOf_o {p K : Nat} (hK : K < 3) (hk : m 4 p = nI K) (hx : m 15 0 = nI t) (ht : t < 16) (hm : mth m p n g) : lk_ev X (d + 3) 151 [.ref 29, .int (nI p)] (hp x S L m dyn) (some (.int (nI n))) (hp x S L (bm m t 11) dyn) := by
  have hp10 := hm.1
  refine E_m_sizeOf ?_
  rw [hp_f29_4, hp_a34, nI_clamp (by omega), hk]
  refine ⟨vp_in_nI (by omega) (by omega), br_f (nI_ge (b := 3) hK (by omega)) ?_⟩
  rw [hp_v29, (S_m_begins hx ht).iffv, hp_f29_5, hp_a35, nI_clamp (by omega), (hm.bm t 11).2.2.1]
  exact ⟨vp_in_nI (by omega) (by omega), rfl, rfl⟩
theorem M_sizeOf_3 {p : Nat} (hk : m 4 p = nI 3) (hn : 1 ≤ n) (hx : m 15 0 = nI t) (ht : t < 15) (hm : mth m p n g) : lk_ev X (d + 3) 151 [.ref 29, .int (nI p)] (hp x S L m dyn) (some (.int (1 + nI (g (n - 1))))) (hp x S L (bm (bm m t 12) (t + 1) 10) dyn) := by
  have hp10 := hm.1
  have hn16 := hm.2.1
  have en : nI n - 1 = nI (n - 1) := by
    rw [i32_eq, show (1 : Int32) = nI 1 from rfl, pk_sub_toInt (by omega) (by omega), i32_nI (by omega)]
    omega
  have hm2 := (hm.bm t 12).bm (t + 1) 10
  refine E_m_sizeOf ?_
  rw [hp_f29_4, hp_a34, nI_clamp (by omega), hk]
  refine ⟨vp_in_nI (by omega) (by omega), br_t (by decide) (br_n1 (by decide) (br_t (by decide) ?_))⟩
  rw [hp_v29, (S_m_begins hx (by omega)).iffv, hp_v29, (S_m_begins bm_15 (by omega)).iffv, hp_f29_5, hp_a35, nI_clamp (by omega), hm2.2.2.1, en]
  refine ⟨vp_in_nI (by omega) (by omega), ?_⟩
  rw [hp_v29, (S_m_at1 hm2 (show n - 1 < n by omega)).iffi]
  exact br_t (by decide) (br_n1 (by decide) ⟨rfl, rfl⟩)
theorem M_sizeOf_4 {p : Nat} (hk : m 4 p = nI 4) (hn : 1 ≤ n) (hx : m 15 0 = nI t) (ht : t < 14) (hm : mth m p n g) : lk_ev X (d + 3) 151 [.ref 29, .int (nI p)] (hp x S L m dyn) (some (.int (2 * (1 + nI (g (n - 1)))))) (hp x S L (bm (bm (bm m t 13) (t + 1) 12) (t + 1 + 1) 10) dyn) := by
  have hp10 := hm.1
  have hn16 := hm.2.1
  have en : nI n - 1 = nI (n - 1) := by
    rw [i32_eq, show (1 : Int32) = nI 1 from rfl, pk_sub_toInt (by omega) (by omega), i32_nI (by omega)]
    omega
  have hm2 := ((hm.bm t 13).bm (t + 1) 12).bm (t + 1 + 1) 10
  refine E_m_sizeOf ?_
  rw [hp_f29_4, hp_a34, nI_clamp (by omega), hk]
  refine ⟨vp_in_nI (by omega) (by omega), br_t (by decide) (br_n1 (by decide) (br_f (by decide) ?_))⟩
  rw [hp_v29, (S_m_begins hx (by omega)).iffv, hp_v29, (S_m_begins bm_15 (by omega)).iffv, hp_v29, (S_m_begins bm_15 (by omega)).iffv, hp_f29_5, hp_a35, nI_clamp (by omega), hm2.2.2.1, en]
  refine ⟨vp_in_nI (by omega) (by omega), ?_⟩
  rw [hp_v29, (S_m_at1 hm2 (show n - 1 < n by omega)).iffi]
  exact br_f (by decide) (br_n1 (by decide) ⟨rfl, rfl⟩)
theorem M_sizeOf_5 {p : Nat} (hk : m 4 p = nI 5) (hn : 1 ≤ n) (hx : m 15 0 = nI t) (ht : t < 12) (hm : mth m p n g) : lk_ev X (d + 3) 151 [.ref 29, .int (nI p)] (hp x S L m dyn) (some (.int (2 * (1 + nI (g (n - 1))) + nI n))) (hp x S L (bm (bm (bm (bm (bm m t 14) (t + 1) 13) (t + 1 + 1) 12) (t + 1 + 1 + 1) 10) (t + 1 + 1 + 1 + 1) 22) dyn) := by
  have hp10 := hm.1
  have hn16 := hm.2.1
  have en : nI n - 1 = nI (n - 1) := by
    rw [i32_eq, show (1 : Int32) = nI 1 from rfl, pk_sub_toInt (by omega) (by omega), i32_nI (by omega)]
    omega
  have hm2 := (((hm.bm t 14).bm (t + 1) 13).bm (t + 1 + 1) 12).bm (t + 1 + 1 + 1) 10
  refine E_m_sizeOf ?_
  rw [hp_f29_4, hp_a34, nI_clamp (by omega), hk]
  refine ⟨vp_in_nI (by omega) (by omega), br_t (by decide) (br_n2 rfl ?_)⟩
  rw [hp_v29, (S_m_begins hx (by omega)).iffv]
  refine br_f (by decide) ?_
  rw [hp_v29, (S_m_begins bm_15 (by omega)).iffv, hp_v29, (S_m_begins bm_15 (by omega)).iffv, hp_v29, (S_m_begins bm_15 (by omega)).iffv, hp_f29_5, hp_a35, nI_clamp (by omega), hm2.2.2.1, en]
  refine ⟨vp_in_nI (by omega) (by omega), ?_⟩
  rw [hp_v29, (S_m_at1 hm2 (show n - 1 < n by omega)).iffi]
  refine br_f (by decide) (br_n2 rfl ?_)
  rw [hp_v29, (M_countMarks bm_15 (by omega) hm2).iffi]
  exact ⟨rfl, rfl⟩
theorem M_mark_1 {p : Nat} (hk : m 4 p = nI 1) (hx : m 15 0 = nI t) (ht : t < 15) (hm : mth m p n g) : lk_ev X (d + 4) 152 [.ref 29, .int (nI p)] (hp x S L m dyn) (some (.int (nI n + 4))) (hp x S L (bm (bm m t 20) (t + 1) 11) dyn) := by
  have hp10 := hm.1
  refine E_m_mark ?_
  rw [hp_f29_4, hp_a34, nI_clamp (by omega), hk]
  refine ⟨vp_in_nI (by omega) (by omega), br_t (by decide) (br_n1 (by decide) ?_)⟩
  rw [hp_v29, (S_m_begins hx (by omega)).iffv, hp_v29, (M_sizeOf_o (K := 1) (by decide) (by rw [bm_ne (by decide) (by decide)]; exact hk) bm_15 (by omega) (hm.bm t 20)).iffi]
  exact br_n1 (by decide) ⟨rfl, rfl⟩
theorem M_mark_2 {p : Nat} (hk : m 4 p = nI 2) (hx : m 15 0 = nI t) (ht : t < 14) (hm : mth m p n g) : lk_ev X (d + 4) 152 [.ref 29, .int (nI p)] (hp x S L m dyn) (some (.int (2 * (nI n + 4)))) (hp x S L (bm (bm (bm m t 21) (t + 1) 20) (t + 1 + 1) 11) dyn) := by
  have hp10 := hm.1
  refine E_m_mark ?_
  rw [hp_f29_4, hp_a34, nI_clamp (by omega), hk]
  refine ⟨vp_in_nI (by omega) (by omega), br_t (by decide) (br_n2 rfl ?_)⟩
  rw [hp_v29, (S_m_begins hx (by omega)).iffv, hp_v29, (S_m_begins bm_15 (by omega)).iffv, hp_v29, (M_sizeOf_o (K := 2) (by decide) (by rw [bm_ne (by decide) (by decide), bm_ne (by decide) (by decide)]; exact hk) bm_15 (by omega) ((hm.bm t 21).bm (t + 1) 20)).iffi]
  exact br_n2 rfl ⟨rfl, rfl⟩
theorem M_mark_3 {p K : Nat} (hK : 2 < K) (hK5 : K ≤ 5) (hk : m 4 p = nI K) (hx : m 15 0 = nI t) (ht : t < 16) (hm : mth m p n g) : lk_ev X (d + 4) 152 [.ref 29, .int (nI p)] (hp x S L m dyn) (some (.int (nI n))) (hp x S L (bm m t 22) dyn) := by
  have hp10 := hm.1
  refine E_m_mark ?_
  rw [hp_f29_4, hp_a34, nI_clamp (by omega), hk]
  refine ⟨vp_in_nI (by omega) (by omega), br_f (nI_ge (a := 2) hK (by omega)) ?_⟩
  rw [hp_v29, (M_countMarks hx ht hm).iffi]
  exact ⟨rfl, rfl⟩
end TRACE
