/-! pure rows: the staff, the tape, the measures -/
variable {te : TTe} {st : TSt} {m : Nat → Int32} {n : Int32} {sh : TSh} {rf rfd ho sz : Nat → Int32} {el : Nat → Int64}
theorem RS_mono {n' : Int32} (hs : RS n sh ho sz el) (h : n ≤ n') : RS n' sh ho sz el := by
  intro j hj
  obtain ⟨a, b, c, d, e⟩ := hs j hj
  refine ⟨a, b, ?_, d, e⟩
  rcases c with c | c | ⟨k, h8, hk, c⟩
  · exact Or.inl c
  · exact Or.inr (Or.inl c)
  · exact Or.inr (Or.inr ⟨k, h8, i_lt.mpr (by have := i_lt.mp hk; have := i_le.mp h; omega), c⟩)
theorem RS_eq {n' : Int32} (hs : RS n sh ho sz el) (h : n' = n) : RS n' sh ho sz el := h ▸ hs
theorem lit_le {x : Int32} {a : Nat} (h : x = nI a) (ha : a < 2147483648) : x.toInt = a := by rw [h, nI_t ha]
theorem bndI {a b c : Nat} (h1 : a ≤ c) (h2 : c ≤ b) : bnd (nI c) a b := ⟨c, h1, h2, rfl⟩
def ad (m : Nat → Int32) (c : Nat) (x1 x2 x3 : Int32) : Nat → Int32 := upd (upd (upd (upd (upd m (4 * c) x1) (4 * c + 1) x2) (4 * c + 2) x3) (4 * c + 3) 0) 32 (nI (c + 1))
theorem ad_o {c : Nat} (x1 x2 x3 : Int32) {j : Nat} (h : j ≠ 32 ∧ (j < 4 * c ∨ 4 * c + 3 < j)) : ad m c x1 x2 x3 j = m j := by
  unfold ad
  rw [upd_n (by omega), upd_n (by omega), upd_n (by omega), upd_n (by omega), upd_n (by omega)]
theorem ad_38 {c : Nat} (h : c < 8) (x1 x2 x3 : Int32) : ad m c x1 x2 x3 38 = m 38 := ad_o _ _ _ (by omega)
theorem ad_0 {c : Nat} (h : c < 8) (x1 x2 x3 : Int32) : ad m c x1 x2 x3 (4 * c) = x1 := by
  unfold ad
  rw [upd_n (by omega), upd_n (by omega), upd_n (by omega), upd_n (by omega), upd_s]
theorem ad_1 {c : Nat} (h : c < 8) (x1 x2 x3 : Int32) : ad m c x1 x2 x3 (4 * c + 1) = x2 := by
  unfold ad
  rw [upd_n (by omega), upd_n (by omega), upd_n (by omega), upd_s]
theorem ad_2 {c : Nat} (h : c < 8) (x1 x2 x3 : Int32) : ad m c x1 x2 x3 (4 * c + 2) = x3 := by
  unfold ad
  rw [upd_n (by omega), upd_n (by omega), upd_s]
theorem ad_3 {c : Nat} (h : c < 8) (x1 x2 x3 : Int32) : ad m c x1 x2 x3 (4 * c + 3) = 0 := by
  unfold ad
  rw [upd_n (by omega), upd_s]
theorem RC_ad {c : Nat} (h : c < 8) (hc : RC te st m) (x1 x2 x3 : Int32) : RC te (nI (c + 1), upd st.2.1 c x1, upd st.2.2.1 c x2, upd st.2.2.2.1 c x3, upd st.2.2.2.2 c 0) (ad m c x1 x2 x3) := by
  obtain ⟨g1, g2, g3, g4, g5, g6, g7⟩ := hc
  refine ⟨by rw [ad_o _ _ _ (by omega), g1], by rw [ad_o _ _ _ (by omega), g2], by rw [ad_o _ _ _ (by omega), g3], by rw [ad_o _ _ _ (by omega), g4], by rw [ad_o _ _ _ (by omega), g5], upd_s.symm, fun k hk => ?_⟩
  obtain ⟨k0, k1, k2, k3⟩ := g7 k hk
  show upd _ _ _ k = _ ∧ upd _ _ _ k = _ ∧ upd _ _ _ k = _ ∧ upd _ _ _ k = _
  by_cases e : k = c
  · subst e
    rw [upd_s, upd_s, upd_s, upd_s]
    exact ⟨(ad_0 h _ _ _).symm, (ad_1 h _ _ _).symm, (ad_2 h _ _ _).symm, (ad_3 h _ _ _).symm⟩
  · rw [upd_n e, upd_n e, upd_n e, upd_n e, ad_o _ _ _ (by omega), ad_o _ _ _ (by omega), ad_o _ _ _ (by omega), ad_o _ _ _ (by omega)]
    exact ⟨k0, k1, k2, k3⟩
theorem RNG_ad {c b1 b2 b3 : Nat} (h : c < 8) (hr : RNG m) (h1 : b1 ≤ 5) (h2 : b2 ≤ 9) (h3 : b3 ≤ 40) : RNG (ad m c (nI b1) (nI b2) (nI b3)) := by
  obtain ⟨q0, q1, q2, q3, q4, q5, q6⟩ := hr
  refine ⟨?_, by rw [ad_o _ _ _ (by omega)]; exact q1, by rw [ad_o _ _ _ (by omega)]; exact q2, by rw [ad_o _ _ _ (by omega)]; exact q3, by rw [ad_o _ _ _ (by omega)]; exact q4, by rw [ad_o _ _ _ (by omega)]; exact q5, fun k hk => ?_⟩
  · unfold ad; rw [upd_s]; exact bndI (by omega) (by omega)
  · obtain ⟨k0, k1, k2⟩ := q6 k hk
    by_cases e : k = c
    · subst e
      rw [ad_0 h, ad_1 h, ad_2 h]
      exact ⟨bndI (by omega) h1, bndI (by omega) h2, bndI (by omega) h3⟩
    · rw [ad_o _ _ _ (by omega), ad_o _ _ _ (by omega), ad_o _ _ _ (by omega)]
      exact ⟨k0, k1, k2⟩
theorem FB_ad {c N : Nat} (h : c < 8) (hF : FB N m) (x1 x2 x3 : Int32) : FB N (ad m c x1 x2 x3) := by
  intro k hk
  by_cases e : k = c
  · subst e; rw [ad_3 h]; exact ⟨0, by omega, by omega, rfl⟩
  · rw [ad_o _ _ _ (by omega)]; exact hF k hk
theorem q_keeper (hc : RC te st m) (hr : RNG m) (hf : RF rf rfd) (x1 x2 x3 : Int32) : ∃ r1 r2, zf_X7_keeper x1 x2 x3 st rf = some r1 ∧ zf_X8_keeper x1 x2 x3 rfd m = some r2 ∧ r1.1 = r2.1 ∧ RF r1.2.2 r2.2.1 ∧ RC te r1.2.1 r2.2.2 ∧ RNG r2.2.2 ∧ r2.2.2 38 = m 38 ∧ m 32 ≤ r2.2.2 32 ∧ ∀ N, FB N m → FB N r2.2.2 := by
  have rl : m 32 ≤ m 32 := i_le.mpr (Int.le_refl _)
  have hno : ∃ r1 r2, zf_X7_keeper_29 st rf = some r1 ∧ zf_X8_keeper_36 rfd m = some r2 ∧ r1.1 = r2.1 ∧ RF r1.2.2 r2.2.1 ∧ RC te r1.2.1 r2.2.2 ∧ RNG r2.2.2 ∧ r2.2.2 38 = m 38 ∧ m 32 ≤ r2.2.2 32 ∧ ∀ N, FB N m → FB N r2.2.2 := by
    unfold zf_X7_keeper_29 zf_X8_keeper_36
    rw [r7_2, r8_2]
    exact ⟨_, _, rfl, rfl, rfl, rf_2 hf, hc, hr, rfl, rl, fun _ h => h⟩
  unfold zf_X7_keeper zf_X8_keeper zf_X2_isFull zf_X8_many
  rw [win7, win7, win7, win8 (a := 0) (b := 5) (by decide) (by decide), win8 (a := 0) (b := 9) (by decide) (by decide), win8 (a := 0) (b := 40) (by decide) (by decide)]
  simp only [Option.bind_some]
  cases h1 : win x1 0 5
  · exact hno
  cases h2 : win x2 0 9
  · exact hno
  cases h3 : win x3 0 40
  · exact hno
  simp only [if_true]
  obtain ⟨g1, g2, g3, g4, g5, g6, g7⟩ := hc
  obtain ⟨c, -, hc8, ec⟩ := hr.1
  rw [g6, ec]
  by_cases e8 : c = 8
  · subst e8
    rw [if_neg (by decide), if_pos (by decide), r8_6, r7_6]
    exact ⟨_, _, rfl, rfl, rfl, rf_6 hf, ⟨g1, g2, g3, g4, g5, g6, g7⟩, hr, rfl, i_le.mpr (by show _ ≤ (m 32).toInt; rw [ec]; exact Int.le_refl _), fun _ h => h⟩
  · have l8 : nI c < 8 := i_lt.mpr (by rw [nI_t (by omega)]; show _ < (8 : Int); omega)
    have n8 : ¬ nI c = 8 := fun q => by have := i_eq.mp q; rw [nI_t (by omega), show (8 : Int32).toInt = 8 from rfl] at this; omega
    have n0 : ¬ nI c < 0 := fun q => by have := i_lt.mp q; rw [nI_t (by omega), show (0 : Int32).toInt = 0 from rfl] at this; omega
    have i8 := ix_nI (j := c) (n := 8) (by omega) (by decide)
    have E0 := e4 c
    have E1 : (4 : Int32) * nI c + 1 = nI (4 * c + 1) := e4a c 1
    have E2 : (4 : Int32) * nI c + 2 = nI (4 * c + 2) := e4a c 2
    have E3 : (4 : Int32) * nI c + 3 = nI (4 * c + 3) := e4a c 3
    rw [if_pos l8, if_neg n8]
    simp only [Option.bind_some]
    unfold zf_X2_add zf_X8_add
    rw [g6, ec, E1, E2, E3, E0, if_neg n0, if_pos l8, if_pos i8, if_pos i8, if_pos i8, if_pos i8, if_pos (ix_nI (by omega) (by decide)), if_pos (ix_nI (by omega) (by decide)), if_pos (ix_nI (by omega) (by decide)), if_pos (ix_nI (by omega) (by decide)), cl_nI (by omega), cl_nI (by omega), cl_nI (by omega), cl_nI (by omega), cl_nI (by omega), upd_n (by omega), upd_n (by omega), upd_n (by omega), upd_n (by omega), ec, nI_1]
    obtain ⟨b1, hb1, rfl⟩ := win_nI (B := 5) (by decide) h1
    obtain ⟨b2, hb2, rfl⟩ := win_nI (B := 9) (by decide) h2
    obtain ⟨b3, hb3, rfl⟩ := win_nI (B := 40) (by decide) h3
    have hx : nI (c + 1) - 1 = nI c := by
      refine i_eq.mpr ?_
      rw [i_sub (by rw [nI_t (by omega)]; show _ ≤ _ - (1 : Int); omega) (by rw [nI_t (by omega)]; show _ - (1 : Int) < _; omega), nI_t (by omega), nI_t (by omega), show (1 : Int32).toInt = 1 from rfl]
      omega
    rw [hx]
    exact ⟨_, _, rfl, rfl, rfl, hf, RC_ad (by omega) ⟨g1, g2, g3, g4, g5, g6, g7⟩ (nI b1) (nI b2) (nI b3), RNG_ad (by omega) hr hb1 hb2 hb3, ad_38 (c := c) (by omega) (nI b1) (nI b2) (nI b3), i_le.mpr (by show _ ≤ (ad m c (nI b1) (nI b2) (nI b3) 32).toInt; unfold ad; rw [upd_s, nI_t (by omega), nI_t (by omega)]; omega), fun _ h => FB_ad (by omega) h (nI b1) (nI b2) (nI b3)⟩
theorem pl_keeper : PL_keeper := by
  intro σ μ x1 x2 x3 N hN hrel
  obtain ⟨hc, hk, hf, hs, ht, ha, hwd⟩ := hrel
  obtain ⟨r1, r2, h1, h2, h3, h4, h5, h6, h7, h8, h9⟩ := q_keeper hc.1 hc.2.1 hf x1 x2 x3
  exact ⟨r1, r2, h1, h2, h3, ⟨h5, h6, hc.2.2.trans h7.symm⟩, hk, h4, RS_mono hs h8, ht, ha, upF (fun y => FB_up (h9 _ y)) hwd⟩
theorem RC_nerve (hc : RC te st m) {k : Nat} (h8 : k < 8) (x : Int32) : RC te (st.1, st.2.1, st.2.2.1, upd st.2.2.2.1 k x, st.2.2.2.2) (upd m (4 * k + 2) x) := by
  obtain ⟨g1, g2, g3, g4, g5, g6, g7⟩ := hc
  refine ⟨?_, ?_, ?_, ?_, ?_, ?_, fun q hq => ?_⟩
  · rw [upd_n (by omega), g1]
  · rw [upd_n (by omega), g2]
  · rw [upd_n (by omega), g3]
  · rw [upd_n (by omega), g4]
  · rw [upd_n (by omega), g5]
  · rw [upd_n (by omega)]; exact g6
  · obtain ⟨k0, k1, k2, k3⟩ := g7 q hq
    show _ = _ ∧ _ = _ ∧ upd _ _ _ q = _ ∧ _ = _
    rw [upd_n (j := 4 * q) (by omega), upd_n (j := 4 * q + 1) (by omega), upd_n (j := 4 * q + 3) (by omega)]
    refine ⟨k0, k1, ?_, k3⟩
    by_cases e : q = k
    · subst e; rw [upd_s, upd_s]
    · rw [upd_n e, upd_n (by omega)]; exact k2
theorem RNG_nerve (hr : RNG m) {k : Nat} (h8 : k < 8) {x : Int32} (hx : bnd x 0 40) : RNG (upd m (4 * k + 2) x) := by
  obtain ⟨q0, q1, q2, q3, q4, q5, q6⟩ := hr
  refine ⟨?_, ?_, ?_, ?_, ?_, ?_, fun q hq => ?_⟩
  · rw [upd_n (by omega)]; exact q0
  · rw [upd_n (by omega)]; exact q1
  · rw [upd_n (by omega)]; exact q2
  · rw [upd_n (by omega)]; exact q3
  · rw [upd_n (by omega)]; exact q4
  · rw [upd_n (by omega)]; exact q5
  · obtain ⟨k0, k1, k2⟩ := q6 q hq
    rw [upd_n (j := 4 * q) (by omega), upd_n (j := 4 * q + 1) (by omega)]
    refine ⟨k0, k1, ?_⟩
    by_cases e : q = k
    · subst e; rw [upd_s]; exact hx
    · rw [upd_n (by omega)]; exact k2
theorem nerve7 (hS : SM st m) (hn : bnd (m 32) 0 8) {k : Nat} (h8 : k < 8) (hk : nI k < m 32) : zf_X2_nerveOf (nI k) st = some (m (4 * k + 2)) := by
  unfold zf_X2_nerveOf
  rw [hasK hS hn h8 hk, Option.bind_some, if_pos rfl, if_pos (ix_nI h8 (by decide)), cl_nI (by omega), (hS.2 k h8).2.2]
theorem kind7 (hS : SM st m) (hn : bnd (m 32) 0 8) {k : Nat} (h8 : k < 8) (hk : nI k < m 32) : zf_X2_kindOf (nI k) st = some (m (4 * k)) := by
  unfold zf_X2_kindOf
  rw [hasK hS hn h8 hk, Option.bind_some, if_pos rfl, if_pos (ix_nI h8 (by decide)), cl_nI (by omega), (hS.2 k h8).1]
theorem skill7 (hS : SM st m) (hn : bnd (m 32) 0 8) {k : Nat} (h8 : k < 8) (hk : nI k < m 32) : zf_X2_skillOf (nI k) st = some (m (4 * k + 1)) := by
  unfold zf_X2_skillOf
  rw [hasK hS hn h8 hk, Option.bind_some, if_pos rfl, if_pos (ix_nI h8 (by decide)), cl_nI (by omega), (hS.2 k h8).2.1]
theorem fled7 (hc : RC te st m) (hn : bnd (m 32) 0 8) {k : Nat} (h8 : k < 8) (hk : nI k < m 32) : zf_X2_fledOf (nI k) st = some (m (4 * k + 3)) := by
  unfold zf_X2_fledOf
  rw [hasK (RC_SM hc) hn h8 hk, Option.bind_some, if_pos rfl, if_pos (ix_nI h8 (by decide)), cl_nI (by omega), (hc.2.2.2.2.2.2 k h8).2.2.2]
theorem q_nerve (hc : RC te st m) (hr : RNG m) (hf : RF rf rfd) (x1 x2 : Int32) : ∃ r1 r2, zf_X7_nerve x1 x2 st rf = some r1 ∧ zf_X8_nerve x1 x2 rfd m = some r2 ∧ r1.1 = r2.1 ∧ RF r1.2.2 r2.2.1 ∧ RC te r1.2.1 r2.2.2 ∧ RNG r2.2.2 ∧ r2.2.2 38 = m 38 ∧ r2.2.2 32 = m 32 ∧ ∀ N, FB N m → FB N r2.2.2 := by
  have hno : ∃ r1 r2, zf_X7_nerve_21 st rf = some r1 ∧ zf_X8_nerve_21 rfd m = some r2 ∧ r1.1 = r2.1 ∧ RF r1.2.2 r2.2.1 ∧ RC te r1.2.1 r2.2.2 ∧ RNG r2.2.2 ∧ r2.2.2 38 = m 38 ∧ r2.2.2 32 = m 32 ∧ ∀ N, FB N m → FB N r2.2.2 := by
    unfold zf_X7_nerve_21 zf_X8_nerve_21
    rw [r7_2, r8_2]
    exact ⟨_, _, rfl, rfl, rfl, rf_2 hf, hc, hr, rfl, rfl, fun _ h => h⟩
  have hS := RC_SM hc
  unfold zf_X7_nerve zf_X8_nerve
  rw [hasKx hS hr.1, keeper8 _ hr.1, win7, win8 (a := 0) (b := 40) (by decide) (by decide)]
  simp only [Option.bind_some]
  cases h1 : isK (m 32) x1.toInt64
  · exact hno
  cases h2 : win x2 0 40
  · exact hno
  simp only [if_true]
  obtain ⟨k, h8, hk, rfl⟩ := isK_32 hr.1 h1
  obtain ⟨b2, hb2, rfl⟩ := win_nI (B := 40) (by decide) h2
  have E2 : (4 : Int32) * nI k + 2 = nI (4 * k + 2) := e4a k 2
  unfold zf_X2_putNerve
  rw [nerve7 hS hr.1 h8 hk, hasK hS hr.1 h8 hk, nerve8 h8, Option.bind_some, Option.bind_some, Option.bind_some, if_pos rfl, if_pos (ix_nI h8 (by decide)), E2, if_pos (ix_nI (by omega) (by decide)), cl_nI (by omega), cl_nI (by omega), Option.bind_some]
  refine ⟨_, _, rfl, rfl, rfl, hf, RC_nerve hc h8 _, RNG_nerve hr h8 (bndI (by omega) hb2), ?_, ?_, fun N hF => FB_eq hF (fun q hq => ?_)⟩
  · exact upd_n (by omega)
  · exact upd_n (by omega)
  · exact upd_n (by omega)
theorem pl_nerve : PL_nerve := by
  intro σ μ x1 x2 N hN hrel
  obtain ⟨hc, hk, hf, hs, ht, ha, hwd⟩ := hrel
  obtain ⟨r1, r2, h1, h2, h3, h4, h5, h6, h7, h8, h9⟩ := q_nerve hc.1 hc.2.1 hf x1 x2
  exact ⟨r1, r2, h1, h2, h3, ⟨h5, h6, hc.2.2.trans h7.symm⟩, hk, h4, RS_eq hs h8, ht, ha, upF (fun y => FB_up (h9 _ y)) hwd⟩
