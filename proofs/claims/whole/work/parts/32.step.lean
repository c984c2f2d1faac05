/-! the model's step is the hour -/
theorem e4 (k : Nat) : (4 : Int32) * nI k = nI (4 * k) := pk_mul 4 k
theorem e4a (k i : Nat) : (4 : Int32) * nI k + nI i = nI (4 * k + i) := by rw [e4, nI_add]
def MSt (m : Nat → Int32) (t : T5) (μ : Nat → Int32) : Prop := (∀ k, k < 8 → μ (4 * k) = m (4 * k) ∧ μ (4 * k + 1) = m (4 * k + 1) ∧ μ (4 * k + 2) = m (4 * k + 2)) ∧ μ 32 = m 32 ∧ μ 33 = t.1 ∧ μ 34 = t.2.1 ∧ μ 35 = t.2.2.1 ∧ μ 36 = t.2.2.2.1 ∧ μ 37 = t.2.2.2.2 ∧ μ 38 = m 38 ∧ ∀ j, 39 ≤ j → μ j = m j
theorem MS33 {m : Nat → Int32} {t : T5} {μ : Nat → Int32} (h : MSt m t μ) (x : Int32) : MSt m (x, t.2) (upd μ 33 x) := by
  obtain ⟨h1, h2, h3, h4, h5, h6, h7, h8, h9⟩ := h
  refine ⟨fun k hk => ?_, ?_, upd_s, ?_, ?_, ?_, ?_, ?_, fun j hj => ?_⟩
  · rw [upd_n (by omega), upd_n (by omega), upd_n (by omega)]; exact h1 k hk
  all_goals rw [upd_n (by omega)]
  all_goals first | assumption | exact h9 j hj
theorem MS34 {m : Nat → Int32} {t : T5} {μ : Nat → Int32} (h : MSt m t μ) (x : Int32) : MSt m (t.1, x, t.2.2) (upd μ 34 x) := by
  obtain ⟨h1, h2, h3, h4, h5, h6, h7, h8, h9⟩ := h
  refine ⟨fun k hk => ?_, ?_, ?_, upd_s, ?_, ?_, ?_, ?_, fun j hj => ?_⟩
  · rw [upd_n (by omega), upd_n (by omega), upd_n (by omega)]; exact h1 k hk
  all_goals rw [upd_n (by omega)]
  all_goals first | assumption | exact h9 j hj
theorem MS35 {m : Nat → Int32} {t : T5} {μ : Nat → Int32} (h : MSt m t μ) (x : Int32) : MSt m (t.1, t.2.1, x, t.2.2.2) (upd μ 35 x) := by
  obtain ⟨h1, h2, h3, h4, h5, h6, h7, h8, h9⟩ := h
  refine ⟨fun k hk => ?_, ?_, ?_, ?_, upd_s, ?_, ?_, ?_, fun j hj => ?_⟩
  · rw [upd_n (by omega), upd_n (by omega), upd_n (by omega)]; exact h1 k hk
  all_goals rw [upd_n (by omega)]
  all_goals first | assumption | exact h9 j hj
theorem MS37 {m : Nat → Int32} {t : T5} {μ : Nat → Int32} (h : MSt m t μ) (x : Int32) : MSt m (t.1, t.2.1, t.2.2.1, t.2.2.2.1, x) (upd μ 37 x) := by
  obtain ⟨h1, h2, h3, h4, h5, h6, h7, h8, h9⟩ := h
  refine ⟨fun k hk => ?_, ?_, ?_, ?_, ?_, ?_, upd_s, ?_, fun j hj => ?_⟩
  · rw [upd_n (by omega), upd_n (by omega), upd_n (by omega)]; exact h1 k hk
  all_goals rw [upd_n (by omega)]
  all_goals first | assumption | exact h9 j hj
theorem MSf {m : Nat → Int32} {t : T5} {μ : Nat → Int32} (h : MSt m t μ) (x : Int32) {q : Nat} (hq : q < 8) : MSt m t (upd μ (4 * q + 3) x) := by
  obtain ⟨h1, h2, h3, h4, h5, h6, h7, h8, h9⟩ := h
  refine ⟨fun k hk => ?_, ?_, ?_, ?_, ?_, ?_, ?_, ?_, fun j hj => ?_⟩
  · rw [upd_n (by omega), upd_n (by omega), upd_n (by omega)]; exact h1 k hk
  all_goals rw [upd_n (by omega)]
  all_goals first | assumption | exact h9 j hj
section M8
variable {m : Nat → Int32} {t : T5} {μ : Nat → Int32}
theorem kind8 {k : Nat} (h : k < 8) : zf_X8_kind (nI k) μ = some (μ (4 * k)) := by
  unfold zf_X8_kind
  rw [e4, ix_nI (by omega) (by decide), cl_nI (by omega)]
  rfl
theorem a8 {k : Nat} (h : k < 8) : zf_X8_a (nI k) μ = some (μ (4 * k + 1)) := by
  unfold zf_X8_a
  rw [show (4 : Int32) * nI k + 1 = nI (4 * k + 1) from e4a k 1, ix_nI (by omega) (by decide), cl_nI (by omega)]
  rfl
theorem nerve8 {k : Nat} (h : k < 8) : zf_X8_nerveOf (nI k) μ = some (μ (4 * k + 2)) := by
  unfold zf_X8_nerveOf
  rw [show (4 : Int32) * nI k + 2 = nI (4 * k + 2) from e4a k 2, ix_nI (by omega) (by decide), cl_nI (by omega)]
  rfl
theorem fright8 (hM : MSt m t μ) : zf_X8_fright μ = some (sFr t) := by
  obtain ⟨h1, h2, h3, h4, h5, h6, h7, h8, h9⟩ := hM
  unfold zf_X8_fright sFr
  rw [h3, h5]
theorem staying8 (hM : MSt m t μ) {k : Nat} (h : k < 8) : zf_X8_isStaying (nI k) μ = some (sStay m k t) := by
  unfold zf_X8_isStaying zf_X8_isStaying_113
  simp only [nerve8 h, kind8 h, a8 h, fright8 hM, Option.bind_some, if_nd]
  obtain ⟨h1, h2, h3, h4, h5, h6, h7, h8, h9⟩ := hM
  obtain ⟨e1, e2, e3⟩ := h1 k h
  rw [e1, e2, e3, h3, h6]
  unfold sStay
  by_cases q1 : m (4 * k) = 1
  · rw [if_pos q1, if_pos q1]
  · rw [if_neg q1, if_neg q1]
    by_cases q2 : m (4 * k) = 2
    · rw [if_pos q2, if_neg (by rw [q2]; decide), if_neg (by rw [q2]; decide), if_neg (by rw [q2]; decide)]
    · rw [if_neg q2]
      by_cases q3 : m (4 * k) = 3
      · rw [if_pos q3, if_pos q3]
      · rw [if_neg q3, if_neg q3]
        by_cases q4 : m (4 * k) = 4
        · rw [if_pos q4, if_pos q4]
        · rw [if_neg q4, if_neg q4]
          by_cases q5 : m (4 * k) = 5
          · rw [if_pos q5, if_pos q5]
            by_cases z : m (4 * k + 2) < sFr t
            · rw [if_pos z, decide_eq_true z]; rfl
            · rw [if_neg z, decide_eq_false z]; rfl
          · rw [if_neg q5, if_neg q5]
theorem soothes8 (hM : MSt m t μ) {k : Nat} (h : k < 8) : zf_X8_soothes (nI k) μ = some (sSooth (m (4 * k)) (m (4 * k + 1)) t) := by
  unfold zf_X8_soothes zf_X8_soothes_22
  simp only [kind8 h, a8 h, Option.bind_some]
  obtain ⟨h1, h2, h3, h4, h5, h6, h7, h8, h9⟩ := hM
  obtain ⟨e1, e2, e3⟩ := h1 k h
  rw [e1, e2, h3, h5]
  unfold sSooth sSong
  by_cases q : (t.1 - t.1 / 2 * 2) = 0
  · rw [if_pos q]
    repeat' split
    all_goals rfl
  · rw [if_neg q]
    simp only [if_neg q, Int32.add_zero]
    repeat' split
    all_goals rfl
theorem bound99 (x : Int32) : zf_X8_bound x 99 = some (c99 x) := rfl
theorem grow8 (hM : MSt m t μ) (hg : t.2.2.1.toInt ≤ 9) {h : Int32} (hh : h ≠ 0) : zf_X8_grow h μ = some (upd μ 35 (sGrow t.2.2.1 (decide (t.2.2.2.2 - t.2.2.2.2 / h * h = 0)))) := by
  obtain ⟨h1, h2, h3, h4, h5, h6, h7, h8, h9⟩ := hM
  unfold zf_X8_grow zf_X8_grow_32 sGrow
  rw [if_neg hh, h5, h7]
  by_cases q : (t.2.2.2.2 - t.2.2.2.2 / h * h) = 0
  · rw [if_pos q, decide_eq_true q]; rfl
  · rw [if_neg q, decide_eq_false q]
    show some (upd μ 35 (if t.2.2.1 + 0 < 9 then t.2.2.1 + 0 else 9)) = some (upd μ 35 t.2.2.1)
    rw [Int32.add_zero]
    by_cases z : t.2.2.1 < 9
    · rw [if_pos z]
    · rw [if_neg z]
      have : t.2.2.1 = 9 := i_eq.mpr (by have z := i_nlt z; have e : (9 : Int32).toInt = 9 := rfl; omega)
      rw [this]
end M8
theorem c99_id {x : Int32} (h0 : 0 ≤ x.toInt) (h1 : x.toInt ≤ 99) : c99 x = x := by
  unfold c99
  have e9 : (99 : Int32).toInt = 99 := rfl
  have e0 : (0 : Int32).toInt = 0 := rfl
  by_cases q : x < 99
  · rw [if_pos q]
    by_cases z : (0 : Int32) < x
    · rw [if_pos z]
    · rw [if_neg z]; exact i_eq.mpr (by have := i_nlt z; omega)
  · rw [if_neg q, if_pos (by decide)]
    exact i_eq.mpr (by have := i_nlt q; omega)
theorem c99_rng (x : Int32) : 0 ≤ (c99 x).toInt ∧ (c99 x).toInt ≤ 99 := by
  unfold c99
  have e9 : (99 : Int32).toInt = 99 := rfl
  have e0 : (0 : Int32).toInt = 0 := rfl
  by_cases q : x < 99
  · rw [if_pos q]
    have q := i_lt.mp q
    by_cases z : (0 : Int32) < x
    · rw [if_pos z]; have z := i_lt.mp z; omega
    · rw [if_neg z]; omega
  · rw [if_neg q, if_pos (by decide)]; omega
theorem sGrow_rng {g : Int32} (b : Bool) (h0 : 1 ≤ g.toInt) (h1 : g.toInt ≤ 9) : 1 ≤ (sGrow g b).toInt ∧ (sGrow g b).toInt ≤ 9 := by
  unfold sGrow
  have e1 : (1 : Int32).toInt = 1 := rfl
  have e9 : (9 : Int32).toInt = 9 := rfl
  have ea : (g + 1).toInt = g.toInt + 1 := by rw [i_add (by omega) (by omega), e1]
  cases b with
  | false => exact ⟨h0, h1⟩
  | true =>
    rw [if_pos rfl]
    by_cases q : g + 1 < 9
    · rw [if_pos q]; have q := i_lt.mp q; omega
    · rw [if_neg q]; omega
theorem i_div4 {x : Int32} (h0 : -99 ≤ x.toInt) (h1 : x.toInt ≤ 99) : (0 ≤ x.toInt → 0 ≤ (x / 4).toInt ∧ (x / 4).toInt ≤ x.toInt) ∧ (x.toInt ≤ 0 → x.toInt ≤ (x / 4).toInt ∧ (x / 4).toInt ≤ 0) := by
  have e : (x / 4).toInt = x.toInt.tdiv 4 := by
    rw [Int32.toInt_div, show (4 : Int32).toInt = 4 from rfl]
    have h2 : x.toInt.tdiv 4 ≤ 99 ∧ -99 ≤ x.toInt.tdiv 4 := by
      rcases Int.le_total 0 x.toInt with z | z
      · rw [Int.tdiv_eq_ediv_of_nonneg z]; omega
      · have hh := Int.neg_tdiv (a := -x.toInt) (b := 4)
        rw [Int.neg_neg] at hh
        rw [hh, Int.tdiv_eq_ediv_of_nonneg (by omega)]; omega
    rw [Int.bmod_eq_of_le (by omega) (by omega)]
  rw [e]
  constructor
  · intro z
    rw [Int.tdiv_eq_ediv_of_nonneg z]; omega
  · intro z
    have hh := Int.neg_tdiv (a := -x.toInt) (b := 4)
    rw [Int.neg_neg] at hh
    rw [hh, Int.tdiv_eq_ediv_of_nonneg (by omega)]; omega
theorem TR_meet {t : T5} (h : TR t) : TR (sMeet t) := by
  obtain ⟨⟨a1, a2⟩, ⟨b1, b2⟩, h3, h4, h5⟩ := h
  unfold sMeet
  have es : (t.1 - t.2.1).toInt = t.1.toInt - t.2.1.toInt := i_sub (by omega) (by omega)
  obtain ⟨d1, d2⟩ := i_div4 (x := t.1 - t.2.1) (by omega) (by omega)
  rw [es] at d1 d2
  have er : (t.1 - (t.1 - t.2.1) / 4).toInt = t.1.toInt - ((t.1 - t.2.1) / 4).toInt := i_sub (by omega) (by omega)
  have ec : (t.2.1 + (t.1 - t.2.1) / 4).toInt = t.2.1.toInt + ((t.1 - t.2.1) / 4).toInt := i_add (by omega) (by omega)
  exact ⟨by show 0 ≤ (t.1 - (t.1 - t.2.1) / 4).toInt ∧ (t.1 - (t.1 - t.2.1) / 4).toInt ≤ 99; rw [er]; omega, by show 0 ≤ (t.2.1 + (t.1 - t.2.1) / 4).toInt ∧ (t.2.1 + (t.1 - t.2.1) / 4).toInt ≤ 99; rw [ec]; omega, h3, h4, h5⟩
theorem flee_eq {t : T5} (h : TR t) : c99 (t.1 + 2 * t.2.2.1) = (if t.1 + 2 * t.2.2.1 < 99 then t.1 + 2 * t.2.2.1 else 99) := by
  obtain ⟨⟨a1, a2⟩, h2, ⟨g1, g2⟩, h4, h5⟩ := h
  have e2 : (2 : Int32).toInt = 2 := rfl
  have e0 : (0 : Int32).toInt = 0 := rfl
  have em : (2 * t.2.2.1).toInt = 2 * t.2.2.1.toInt := by rw [i_mul (by rw [e2]; omega) (by rw [e2]; omega), e2]
  have ea : (t.1 + 2 * t.2.2.1).toInt = t.1.toInt + 2 * t.2.2.1.toInt := by rw [i_add (by omega) (by omega), em]
  unfold c99
  by_cases q : t.1 + 2 * t.2.2.1 < 99
  · rw [if_pos q, if_pos (i_lt.mpr (by omega))]
  · rw [if_neg q, if_pos (by decide)]
theorem TR_flee {t : T5} (h : TR t) : TR (sFlee t) := by
  have e := flee_eq h
  obtain ⟨⟨a1, a2⟩, h2, ⟨g1, g2⟩, h4, h5⟩ := h
  refine ⟨?_, h2, sGrow_rng _ g1 g2, h4, h5⟩
  show 0 ≤ (if t.1 + 2 * t.2.2.1 < 99 then t.1 + 2 * t.2.2.1 else 99).toInt ∧ (if t.1 + 2 * t.2.2.1 < 99 then t.1 + 2 * t.2.2.1 else 99).toInt ≤ 99
  rw [← e]
  exact c99_rng _
theorem TR_kept {m : Nat → Int32} {k : Nat} {t : T5} (h : TR t) : TR (sKept m k t) := ⟨c99_rng _, h.2.1, sGrow_rng _ h.2.2.1.1 h.2.2.1.2, h.2.2.2⟩
theorem TR_mid {m : Nat → Int32} {o : Int32} {t : T5} (h : TR t) : TR (sMid m o t) := by
  unfold sMid
  by_cases q : o = 10
  · rw [if_pos q]; exact TR_meet h
  · rw [if_neg q]
    by_cases q2 : o = -1
    · rw [if_pos q2]; exact TR_flee h
    · rw [if_neg q2]
      by_cases q3 : sStay m o.toNatClampNeg t = true
      · rw [if_pos q3]; exact TR_kept h
      · rw [if_neg q3]; exact TR_flee h
theorem end_calm {t : T5} (h : TR t) : c99 (t.2.1 - bI (sHarm t)) = (sEnd t).2.1 := by
  obtain ⟨h1, ⟨b1, b2⟩, h3, h4, h5⟩ := h
  unfold sEnd
  cases sHarm t with
  | false =>
    show c99 (t.2.1 - 0) = t.2.1
    rw [Int32.sub_zero]
    exact c99_id b1 b2
  | true =>
    show c99 (t.2.1 - 1) = (if (0 : Int32) < t.2.1 - 1 then t.2.1 - 1 else 0)
    have e1 : (1 : Int32).toInt = 1 := rfl
    have e9 : (99 : Int32).toInt = 99 := rfl
    have es : (t.2.1 - 1).toInt = t.2.1.toInt - 1 := by rw [i_sub (by omega) (by omega), e1]
    unfold c99
    rw [if_pos (show t.2.1 - 1 < 99 from i_lt.mpr (by omega))]
theorem end_hour {t : T5} (h : TR t) : zf_X8_bound (t.2.2.2.2 + 1) 9999 = some (sEnd t).2.2.2.2 := by
  obtain ⟨h1, h2, h3, h4, ⟨b1, b2⟩⟩ := h
  unfold sEnd zf_X8_bound
  have e1 : (1 : Int32).toInt = 1 := rfl
  have e0 : (0 : Int32).toInt = 0 := rfl
  have es : (t.2.2.2.2 + 1).toInt = t.2.2.2.2.toInt + 1 := by rw [i_add (by omega) (by omega), e1]
  by_cases q : t.2.2.2.2 + 1 < 9999
  · rw [if_pos q, if_pos (i_lt.mpr (by omega))]
  · rw [if_neg q, if_pos (by decide)]
theorem TR_end {t : T5} (h : TR t) : TR (sEnd t) := by
  have e := end_calm h
  obtain ⟨h1, h2, h3, h4, ⟨b1, b2⟩⟩ := h
  refine ⟨h1, ?_, h3, h4, ?_⟩
  · rw [← e]; exact c99_rng _
  · show 0 ≤ (if t.2.2.2.2 + 1 < 9999 then t.2.2.2.2 + 1 else 9999).toInt ∧ (if t.2.2.2.2 + 1 < 9999 then t.2.2.2.2 + 1 else 9999).toInt ≤ 9999
    have e1 : (1 : Int32).toInt = 1 := rfl
    have e9 : (9999 : Int32).toInt = 9999 := rfl
    have es : (t.2.2.2.2 + 1).toInt = t.2.2.2.2.toInt + 1 := by rw [i_add (by omega) (by omega), e1]
    by_cases q : t.2.2.2.2 + 1 < 9999
    · rw [if_pos q]; have q := i_lt.mp q; omega
    · rw [if_neg q]; omega
theorem TR_hr {m : Nat → Int32} {o : Int32} {t : T5} (h : TR t) : TR (sHr m o t) := TR_end (TR_mid h)
theorem step177 {m : Nat → Int32} {t : T5} {μ : Nat → Int32} (hM : MSt m t μ) (ht : TR t) (f : Bool) : ∃ μ', zf_X8_step_177 μ f = some (bI (sHarm t), μ', f) ∧ MSt m (sEnd t) μ' ∧ ∀ k, k < 8 → μ' (4 * k + 3) = μ (4 * k + 3) := by
  refine ⟨upd (upd μ 34 (sEnd t).2.1) 37 (sEnd t).2.2.2.2, ?_, ?_, fun k hk => by rw [upd_n (by omega), upd_n (by omega)]⟩
  · have e1 := end_calm ht
    have e2 := end_hour ht
    obtain ⟨h1, h2, h3, h4, h5, h6, h7, h8, h9⟩ := id hM
    unfold zf_X8_step_177 zf_X8_step_199
    rw [h3, h6]
    unfold sHarm at e1 ⊢
    by_cases q : t.1 < t.2.2.2.1
    · rw [if_pos q, h4, decide_eq_true q, bound99]
      rw [decide_eq_true q] at e1
      simp only [Option.bind_some]
      rw [upd_n (by omega), h7]
      rw [show c99 (t.2.1 - bI false) = (sEnd t).2.1 from e1, e2]
      rfl
    · rw [if_neg q, h4, decide_eq_false q, bound99]
      rw [decide_eq_false q] at e1
      simp only [Option.bind_some]
      rw [upd_n (by omega), h7]
      rw [show c99 (t.2.1 - bI true) = (sEnd t).2.1 from e1, e2]
      rfl
  · have := MS37 (MS34 hM (sEnd t).2.1) (sEnd t).2.2.2.2
    exact this
