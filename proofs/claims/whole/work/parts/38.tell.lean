variable {te : TTe} {st : TSt} {m : Nat → Int32} {n : Int32} {sh : TSh} {rf rfd ho sz : Nat → Int32} {el : Nat → Int64}
theorem q_tell (hc : RC te st m) (hr : RNG m) (hf : RF rf rfd) (x1 x2 : Int32) : ∃ r1 r2, zf_X7_tell x1 x2 te rf = some r1 ∧ zf_X8_tell x1 x2 rfd m = some r2 ∧ r1.1 = r2.1 ∧ RF r1.2.2 r2.2.1 ∧ RC r1.2.1 st r2.2.2 ∧ RNG r2.2.2 ∧ r2.2.2 38 = m 38 ∧ r2.2.2 32 = m 32 ∧ ∀ N, FB N m → FB N r2.2.2 := by
  have hno : ∃ r1 r2, (Option.bind (zf_X7_refused (-2) rf) (fun u5 => some (u5.1, te, u5.2))) = some r1 ∧ zf_X8_tell_60 rfd m = some r2 ∧ r1.1 = r2.1 ∧ RF r1.2.2 r2.2.1 ∧ RC r1.2.1 st r2.2.2 ∧ RNG r2.2.2 ∧ r2.2.2 38 = m 38 ∧ r2.2.2 32 = m 32 ∧ ∀ N, FB N m → FB N r2.2.2 := by
    unfold zf_X8_tell_60
    rw [r7_2, r8_2]
    exact ⟨_, _, rfl, rfl, rfl, rf_2 hf, hc, hr, rfl, rfl, fun _ h => h⟩
  unfold zf_X7_tell zf_X8_tell zf_X7_mayBe
  rw [win7, win8 (a := 0) (b := 4) (by decide) (by decide)]
  simp only [Option.bind_some]
  cases h1 : win x1 0 4
  · exact hno
  simp only [if_true]
  obtain ⟨i, hi, rfl⟩ := win_nI (B := 4) (by decide) h1
  have hi : i = 0 ∨ i = 1 ∨ i = 2 ∨ i = 3 ∨ i = 4 := by omega
  obtain ⟨g1, g2, g3, g4, g5, g6, g7⟩ := hc
  obtain ⟨q0, q1, q2, q3, q4, q5, q6⟩ := hr
  have hn : ∀ (a b : Int32) (A B : Int64), A = a.toInt64 → B = b.toInt64 → win x2 a b = false → zf_X8_tell_54 (nI i) x2 B A x2.toInt64 rfd m = zf_X8_tell_60 rfd m := by
    intro a b A B hA hB hw
    unfold zf_X8_tell_54
    rw [win8 hA hB, hw]
    rfl
  have hy : ∀ (a b : Int32) (A B : Int64), A = a.toInt64 → B = b.toInt64 → win x2 a b = true → zf_X8_tell_54 (nI i) x2 B A x2.toInt64 rfd m = some (m (33 + i), rfd, upd m (33 + i) x2) := by
    intro a b A B hA hB hw
    unfold zf_X8_tell_54
    rw [win8 hA hB, hw, Option.bind_some, if_pos rfl, show (33 : Int32) + nI i = nI (33 + i) from nI_add 33 i, if_pos (ix_nI (by omega) (by decide)), if_pos (ix_nI (by omega) (by decide)), cl_nI (by omega)]
  have g7' : ∀ x, ∀ k, k < 8 → st.2.1 k = (upd m (33 + i) x) (4 * k) ∧ st.2.2.1 k = (upd m (33 + i) x) (4 * k + 1) ∧ st.2.2.2.1 k = (upd m (33 + i) x) (4 * k + 2) ∧ st.2.2.2.2 k = (upd m (33 + i) x) (4 * k + 3) := by
    intro x k hk
    rw [upd_n (by omega), upd_n (by omega), upd_n (by omega), upd_n (by omega)]
    exact g7 k hk
  have q6' : ∀ x, ∀ k, k < 8 → bnd ((upd m (33 + i) x) (4 * k)) 0 5 ∧ bnd ((upd m (33 + i) x) (4 * k + 1)) 0 9 ∧ bnd ((upd m (33 + i) x) (4 * k + 2)) 0 40 := by
    intro x k hk
    rw [upd_n (by omega), upd_n (by omega), upd_n (by omega)]
    exact q6 k hk
  have em : ∀ (A B : Nat), A < 2147483648 → B < 2147483648 → win x2 (nI A) (nI B) = true → bnd x2 A B := by
    intro A B hA hB hw
    have := win_iff.mp hw
    rw [nI_t hA, nI_t hB] at this
    exact (bnd_iff hB).mpr this
  rcases hi with rfl | rfl | rfl | rfl | rfl
  · have e1 : zLEA (nI 0).toNatClampNeg = 0 := rfl
    have e2 : zMOS (nI 0).toNatClampNeg = 99 := rfl
    rw [if_pos (by decide), if_pos (by decide), e1, e2, win7, Option.bind_some]
    show ∃ r1 r2, _ = some r1 ∧ zf_X8_tell_54 (nI 0) x2 99 0 x2.toInt64 rfd m = some r2 ∧ _
    cases hw : win x2 0 99
    · rw [hn 0 99 0 99 (by decide) (by decide) hw]
      exact hno
    · rw [hy 0 99 0 99 (by decide) (by decide) hw]
      have u1 : zf_X5_measure (nI 0) te = some (m 33) := (show _ = some (te.1) from rfl).trans (congrArg some g1)
      rw [if_pos rfl, Option.bind_some, if_pos rfl, u1, Option.bind_some]
      refine ⟨_, _, rfl, rfl, rfl, hf, ⟨(upd_s (f := m) (k := 33) (x := x2)).symm, g2.trans (upd_n (f := m) (k := 33) (j := 34) (x := x2) (by decide)).symm, g3.trans (upd_n (f := m) (k := 33) (j := 35) (x := x2) (by decide)).symm, g4.trans (upd_n (f := m) (k := 33) (j := 36) (x := x2) (by decide)).symm, g5.trans (upd_n (f := m) (k := 33) (j := 37) (x := x2) (by decide)).symm, g6.trans (upd_n (f := m) (k := 33) (j := 32) (x := x2) (by decide)).symm, g7' x2⟩, ⟨?_, ?_, ?_, ?_, ?_, ?_, q6' x2⟩, upd_n (f := m) (k := 33) (j := 38) (x := x2) (by decide), upd_n (f := m) (k := 33) (j := 32) (x := x2) (by decide), fun N hF => FB_eq hF (fun q hq => upd_n (by omega))⟩
      · show bnd (upd m 33 x2 32) _ _
        rw [upd_n (by decide)]; exact q0
      · show bnd (upd m 33 x2 33) _ _
        rw [upd_s]; exact em 0 99 (by decide) (by decide) hw
      · show bnd (upd m 33 x2 34) _ _
        rw [upd_n (by decide)]; exact q2
      · show bnd (upd m 33 x2 35) _ _
        rw [upd_n (by decide)]; exact q3
      · show bnd (upd m 33 x2 36) _ _
        rw [upd_n (by decide)]; exact q4
      · show bnd (upd m 33 x2 37) _ _
        rw [upd_n (by decide)]; exact q5
  · have e1 : zLEA (nI 1).toNatClampNeg = 0 := rfl
    have e2 : zMOS (nI 1).toNatClampNeg = 99 := rfl
    rw [if_pos (by decide), if_pos (by decide), e1, e2, win7, Option.bind_some]
    show ∃ r1 r2, _ = some r1 ∧ zf_X8_tell_54 (nI 1) x2 99 0 x2.toInt64 rfd m = some r2 ∧ _
    cases hw : win x2 0 99
    · rw [hn 0 99 0 99 (by decide) (by decide) hw]
      exact hno
    · rw [hy 0 99 0 99 (by decide) (by decide) hw]
      have u1 : zf_X5_measure (nI 1) te = some (m 34) := (show _ = some (te.2.1) from rfl).trans (congrArg some g2)
      rw [if_pos rfl, Option.bind_some, if_pos rfl, u1, Option.bind_some]
      refine ⟨_, _, rfl, rfl, rfl, hf, ⟨g1.trans (upd_n (f := m) (k := 34) (j := 33) (x := x2) (by decide)).symm, (upd_s (f := m) (k := 34) (x := x2)).symm, g3.trans (upd_n (f := m) (k := 34) (j := 35) (x := x2) (by decide)).symm, g4.trans (upd_n (f := m) (k := 34) (j := 36) (x := x2) (by decide)).symm, g5.trans (upd_n (f := m) (k := 34) (j := 37) (x := x2) (by decide)).symm, g6.trans (upd_n (f := m) (k := 34) (j := 32) (x := x2) (by decide)).symm, g7' x2⟩, ⟨?_, ?_, ?_, ?_, ?_, ?_, q6' x2⟩, upd_n (f := m) (k := 34) (j := 38) (x := x2) (by decide), upd_n (f := m) (k := 34) (j := 32) (x := x2) (by decide), fun N hF => FB_eq hF (fun q hq => upd_n (by omega))⟩
      · show bnd (upd m 34 x2 32) _ _
        rw [upd_n (by decide)]; exact q0
      · show bnd (upd m 34 x2 33) _ _
        rw [upd_n (by decide)]; exact q1
      · show bnd (upd m 34 x2 34) _ _
        rw [upd_s]; exact em 0 99 (by decide) (by decide) hw
      · show bnd (upd m 34 x2 35) _ _
        rw [upd_n (by decide)]; exact q3
      · show bnd (upd m 34 x2 36) _ _
        rw [upd_n (by decide)]; exact q4
      · show bnd (upd m 34 x2 37) _ _
        rw [upd_n (by decide)]; exact q5
  · have e1 : zLEA (nI 2).toNatClampNeg = 1 := rfl
    have e2 : zMOS (nI 2).toNatClampNeg = 9 := rfl
    rw [if_pos (by decide), if_pos (by decide), e1, e2, win7, Option.bind_some]
    show ∃ r1 r2, _ = some r1 ∧ zf_X8_tell_54 (nI 2) x2 9 1 x2.toInt64 rfd m = some r2 ∧ _
    cases hw : win x2 1 9
    · rw [hn 1 9 1 9 (by decide) (by decide) hw]
      exact hno
    · rw [hy 1 9 1 9 (by decide) (by decide) hw]
      have u1 : zf_X5_measure (nI 2) te = some (m 35) := (show _ = some (te.2.2.1) from rfl).trans (congrArg some g3)
      rw [if_pos rfl, Option.bind_some, if_pos rfl, u1, Option.bind_some]
      refine ⟨_, _, rfl, rfl, rfl, hf, ⟨g1.trans (upd_n (f := m) (k := 35) (j := 33) (x := x2) (by decide)).symm, g2.trans (upd_n (f := m) (k := 35) (j := 34) (x := x2) (by decide)).symm, (upd_s (f := m) (k := 35) (x := x2)).symm, g4.trans (upd_n (f := m) (k := 35) (j := 36) (x := x2) (by decide)).symm, g5.trans (upd_n (f := m) (k := 35) (j := 37) (x := x2) (by decide)).symm, g6.trans (upd_n (f := m) (k := 35) (j := 32) (x := x2) (by decide)).symm, g7' x2⟩, ⟨?_, ?_, ?_, ?_, ?_, ?_, q6' x2⟩, upd_n (f := m) (k := 35) (j := 38) (x := x2) (by decide), upd_n (f := m) (k := 35) (j := 32) (x := x2) (by decide), fun N hF => FB_eq hF (fun q hq => upd_n (by omega))⟩
      · show bnd (upd m 35 x2 32) _ _
        rw [upd_n (by decide)]; exact q0
      · show bnd (upd m 35 x2 33) _ _
        rw [upd_n (by decide)]; exact q1
      · show bnd (upd m 35 x2 34) _ _
        rw [upd_n (by decide)]; exact q2
      · show bnd (upd m 35 x2 35) _ _
        rw [upd_s]; exact em 1 9 (by decide) (by decide) hw
      · show bnd (upd m 35 x2 36) _ _
        rw [upd_n (by decide)]; exact q4
      · show bnd (upd m 35 x2 37) _ _
        rw [upd_n (by decide)]; exact q5
  · have e1 : zLEA (nI 3).toNatClampNeg = 1 := rfl
    have e2 : zMOS (nI 3).toNatClampNeg = 99 := rfl
    rw [if_pos (by decide), if_pos (by decide), e1, e2, win7, Option.bind_some]
    show ∃ r1 r2, _ = some r1 ∧ zf_X8_tell_54 (nI 3) x2 99 1 x2.toInt64 rfd m = some r2 ∧ _
    cases hw : win x2 1 99
    · rw [hn 1 99 1 99 (by decide) (by decide) hw]
      exact hno
    · rw [hy 1 99 1 99 (by decide) (by decide) hw]
      have u1 : zf_X5_measure (nI 3) te = some (m 36) := (show _ = some (te.2.2.2.1) from rfl).trans (congrArg some g4)
      rw [if_pos rfl, Option.bind_some, if_pos rfl, u1, Option.bind_some]
      refine ⟨_, _, rfl, rfl, rfl, hf, ⟨g1.trans (upd_n (f := m) (k := 36) (j := 33) (x := x2) (by decide)).symm, g2.trans (upd_n (f := m) (k := 36) (j := 34) (x := x2) (by decide)).symm, g3.trans (upd_n (f := m) (k := 36) (j := 35) (x := x2) (by decide)).symm, (upd_s (f := m) (k := 36) (x := x2)).symm, g5.trans (upd_n (f := m) (k := 36) (j := 37) (x := x2) (by decide)).symm, g6.trans (upd_n (f := m) (k := 36) (j := 32) (x := x2) (by decide)).symm, g7' x2⟩, ⟨?_, ?_, ?_, ?_, ?_, ?_, q6' x2⟩, upd_n (f := m) (k := 36) (j := 38) (x := x2) (by decide), upd_n (f := m) (k := 36) (j := 32) (x := x2) (by decide), fun N hF => FB_eq hF (fun q hq => upd_n (by omega))⟩
      · show bnd (upd m 36 x2 32) _ _
        rw [upd_n (by decide)]; exact q0
      · show bnd (upd m 36 x2 33) _ _
        rw [upd_n (by decide)]; exact q1
      · show bnd (upd m 36 x2 34) _ _
        rw [upd_n (by decide)]; exact q2
      · show bnd (upd m 36 x2 35) _ _
        rw [upd_n (by decide)]; exact q3
      · show bnd (upd m 36 x2 36) _ _
        rw [upd_s]; exact em 1 99 (by decide) (by decide) hw
      · show bnd (upd m 36 x2 37) _ _
        rw [upd_n (by decide)]; exact q5
  · have e1 : zLEA (nI 4).toNatClampNeg = 0 := rfl
    have e2 : zMOS (nI 4).toNatClampNeg = 9999 := rfl
    rw [if_pos (by decide), if_pos (by decide), e1, e2, win7, Option.bind_some]
    show ∃ r1 r2, _ = some r1 ∧ zf_X8_tell_54 (nI 4) x2 9999 0 x2.toInt64 rfd m = some r2 ∧ _
    cases hw : win x2 0 9999
    · rw [hn 0 9999 0 9999 (by decide) (by decide) hw]
      exact hno
    · rw [hy 0 9999 0 9999 (by decide) (by decide) hw]
      have u1 : zf_X5_measure (nI 4) te = some (m 37) := (show _ = some (te.2.2.2.2.1) from rfl).trans (congrArg some g5)
      rw [if_pos rfl, Option.bind_some, if_pos rfl, u1, Option.bind_some]
      refine ⟨_, _, rfl, rfl, rfl, hf, ⟨g1.trans (upd_n (f := m) (k := 37) (j := 33) (x := x2) (by decide)).symm, g2.trans (upd_n (f := m) (k := 37) (j := 34) (x := x2) (by decide)).symm, g3.trans (upd_n (f := m) (k := 37) (j := 35) (x := x2) (by decide)).symm, g4.trans (upd_n (f := m) (k := 37) (j := 36) (x := x2) (by decide)).symm, (upd_s (f := m) (k := 37) (x := x2)).symm, g6.trans (upd_n (f := m) (k := 37) (j := 32) (x := x2) (by decide)).symm, g7' x2⟩, ⟨?_, ?_, ?_, ?_, ?_, ?_, q6' x2⟩, upd_n (f := m) (k := 37) (j := 38) (x := x2) (by decide), upd_n (f := m) (k := 37) (j := 32) (x := x2) (by decide), fun N hF => FB_eq hF (fun q hq => upd_n (by omega))⟩
      · show bnd (upd m 37 x2 32) _ _
        rw [upd_n (by decide)]; exact q0
      · show bnd (upd m 37 x2 33) _ _
        rw [upd_n (by decide)]; exact q1
      · show bnd (upd m 37 x2 34) _ _
        rw [upd_n (by decide)]; exact q2
      · show bnd (upd m 37 x2 35) _ _
        rw [upd_n (by decide)]; exact q3
      · show bnd (upd m 37 x2 36) _ _
        rw [upd_n (by decide)]; exact q4
      · show bnd (upd m 37 x2 37) _ _
        rw [upd_s]; exact em 0 9999 (by decide) (by decide) hw
theorem pl_tell : PL_tell := by
  intro σ μ x1 x2 N hN hrel
  obtain ⟨hc, hk, hf, hs, ht, ha, hwd⟩ := hrel
  obtain ⟨r1, r2, h1, h2, h3, h4, h5, h6, h7, h8, h9⟩ := q_tell hc.1 hc.2.1 hf x1 x2
  exact ⟨r1, r2, h1, h2, h3, ⟨h5, h6, hc.2.2.trans h7.symm⟩, hk, h4, RS_eq hs h8, ht, ha, upF (fun y => FB_up (h9 _ y)) hwd⟩
theorem q_feed {ta : TTa} {tp : Nat → Int32} {size : Int32} (ht : RT ta tp size) (hf : RF rf rfd) (x1 : Int32) : ∃ r1 r2, zf_X7_feed x1 ta rf = some r1 ∧ zf_X8_feed x1 rfd tp size = some r2 ∧ r1.1 = r2.1 ∧ RF r1.2.2 r2.2.1 ∧ RT r1.2.1 r2.2.2.1 r2.2.2.2 := by
  unfold zf_X7_feed zf_X8_feed zf_X4_isFull
  rw [win7, win8 (a := 0) (b := 255) (by decide) (by decide)]
  simp only [Option.bind_some]
  cases h1 : win x1 0 255
  · rw [r7_2, r8_2]
    exact ⟨_, _, rfl, rfl, rfl, rf_2 hf, ht⟩
  simp only [if_true]
  obtain ⟨b, hb, rfl⟩ := win_nI (B := 255) (by decide) h1
  obtain ⟨t1, t2, t3⟩ := ht
  obtain ⟨c, -, hc, rfl⟩ := t2
  rw [t1]
  by_cases e : c = 250
  · subst e
    rw [if_neg (by decide), if_pos (by decide), r7_6, r8_6]
    exact ⟨_, _, rfl, rfl, rfl, rf_6 hf, t1, ⟨250, by omega, by omega, rfl⟩, t3⟩
  · have l8 : nI c < 250 := i_lt.mpr (by rw [nI_t (by omega)]; show _ < (250 : Int); omega)
    have l9 : ¬ (250 : Int32) ≤ nI c := nle (a := 250) (by omega) (by decide)
    have n8 : ¬ nI c = 250 := fun q => by have := i_eq.mp q; rw [nI_t (by omega), show (250 : Int32).toInt = 250 from rfl] at this; omega
    have n0 : ¬ nI c < 0 := fun q => by have := i_lt.mp q; rw [nI_t (by omega), show (0 : Int32).toInt = 0 from rfl] at this; omega
    have i8 := ix_nI (j := c) (n := 250) (by omega) (by decide)
    rw [if_pos l8, if_neg n8, if_pos i8]
    unfold zf_X4_add
    simp only [Option.bind_some, Bool.false_eq_true, if_false]
    rw [t1, if_neg n0, if_neg l9, if_pos i8, nI_1, cl_nI (by omega)]
    refine ⟨_, _, rfl, rfl, rfl, hf, rfl, bndI (by omega) (by omega), fun j hj => ?_⟩
    show upd _ _ _ j = upd _ _ _ j ∧ bnd (upd _ _ _ j) 0 255
    by_cases e2 : j = c
    · subst e2
      rw [upd_s, upd_s]
      exact ⟨rfl, bndI (by omega) hb⟩
    · rw [upd_n e2, upd_n e2]
      exact t3 j hj
theorem pl_feed : PL_feed := by
  intro σ μ x1 N hN hrel
  obtain ⟨hc, hk, hf, hs, ht, ha, hwd⟩ := hrel
  obtain ⟨r1, r2, h1, h2, h3, h4, h5⟩ := q_feed ht hf x1
  exact ⟨r1, r2, h1, h2, h3, hc, hk, h4, hs, h5, ha, up hwd⟩
theorem pl_wipe : PL_wipe := by
  intro σ μ N hN hrel
  obtain ⟨hc, hk, hf, hs, ht, ha, hwd⟩ := hrel
  exact ⟨_, _, rfl, rfl, ht.1, hc, hk, hf, hs, ⟨rfl, bndI (c := 0) (by omega) (by omega), ht.2.2⟩, ha, up hwd⟩
theorem q_keeperOf (hc : RC te st m) (hr : RNG m) (hf : RF rf rfd) (x1 x2 : Int32) : ∃ r1 r2, zf_X7_keeperOf x1 x2 st rf = some r1 ∧ zf_X8_keeperOf x1 x2 rfd m = some r2 ∧ r1.1 = r2.1 ∧ RF r1.2 r2.2 := by
  have hno : ∃ r1 r2, zf_X7_keeperOf_20 st rf = some r1 ∧ zf_X8_keeperOf_34 m rfd = some r2 ∧ r1.1 = r2.1 ∧ RF r1.2 r2.2 := by
    unfold zf_X7_keeperOf_20 zf_X8_keeperOf_34
    rw [r7_2, r8_2]
    exact ⟨_, _, rfl, rfl, rfl, rf_2 hf⟩
  have hS := RC_SM hc
  unfold zf_X7_keeperOf zf_X8_keeperOf
  rw [hasKx hS hr.1, keeper8 _ hr.1, win7, win8 (a := 0) (b := 3) (by decide) (by decide)]
  simp only [Option.bind_some]
  cases h1 : isK (m 32) x1.toInt64
  · exact hno
  cases h2 : win x2 0 3
  · exact hno
  simp only [if_true]
  obtain ⟨k, h8, hk, rfl⟩ := isK_32 hr.1 h1
  obtain ⟨i, hi, rfl⟩ := win_nI (B := 3) (by decide) h2
  rw [e4a, if_pos (ix_nI (by omega) (by decide)), cl_nI (by omega), kind7 hS hr.1 h8 hk, skill7 hS hr.1 h8 hk, nerve7 hS hr.1 h8 hk, fled7 hc hr.1 h8 hk]
  have hi : i = 0 ∨ i = 1 ∨ i = 2 ∨ i = 3 := by omega
  rcases hi with rfl | rfl | rfl | rfl
  · exact ⟨_, _, rfl, rfl, rfl, hf⟩
  · exact ⟨_, _, rfl, rfl, rfl, hf⟩
  · exact ⟨_, _, rfl, rfl, rfl, hf⟩
  · exact ⟨_, _, rfl, rfl, rfl, hf⟩
theorem pl_keeperOf : PL_keeperOf := by
  intro σ μ x1 x2 N hN hrel
  obtain ⟨hc, hk, hf, hs, ht, ha, hwd⟩ := hrel
  obtain ⟨r1, r2, h1, h2, h3, h4⟩ := q_keeperOf hc.1 hc.2.1 hf x1 x2
  exact ⟨r1, r2, h1, h2, h3, hc, hk, h4, hs, ht, ha, up hwd⟩
theorem pl_fright : PL_fright := by
  intro σ μ N hN hrel
  have hc := hrel.1.1
  refine ⟨_, _, rfl, rfl, ?_, REL_up hrel⟩
  rw [hc.1, hc.2.2.1]
theorem q_stays (hc : RC te st m) (hr : RNG m) (hf : RF rf rfd) (x1 : Int32) : ∃ r1 r2, zf_X7_stays x1 te st rf = some r1 ∧ zf_X8_stays x1 rfd m = some r2 ∧ r1.1 = r2.1 ∧ RF r1.2 r2.2 := by
  have hS := RC_SM hc
  unfold zf_X7_stays zf_X8_stays
  rw [hasKx hS hr.1, keeper8 _ hr.1]
  simp only [Option.bind_some]
  cases h1 : isK (m 32) x1.toInt64
  · rw [r7_2, r8_2]
    exact ⟨_, _, rfl, rfl, rfl, rf_2 hf⟩
  simp only [if_true]
  obtain ⟨k, h8, hk, rfl⟩ := isK_32 hr.1 h1
  rw [RC_te hc, remains7 hS hr.1 h8 hk, staying8 (MSt_self m) h8]
  simp only [Option.bind_some]
  cases sStay m k (t5 m)
  · exact ⟨_, _, rfl, rfl, rfl, hf⟩
  · exact ⟨_, _, rfl, rfl, rfl, hf⟩
theorem pl_stays : PL_stays := by
  intro σ μ x1 N hN hrel
  obtain ⟨hc, hk, hf, hs, ht, ha, hwd⟩ := hrel
  obtain ⟨r1, r2, h1, h2, h3, h4⟩ := q_stays hc.1 hc.2.1 hf x1
  exact ⟨r1, r2, h1, h2, h3, hc, hk, h4, hs, ht, ha, up hwd⟩
theorem staying_loop (hc : RC te st m) (hr : RNG m) {c : Nat} (hc8 : c ≤ 8) (ec : m 32 = nI c) : ∀ (r f i : Nat) (v : Int32), i + r = c → r < f → ∃ x, zf_X2_bitsRemaining_4 st te f v (nI i) = some x ∧ zf_X8_staying_4 m f v (nI i) = some x
  | _, 0, _, _, _, h => absurd h (Nat.not_lt_zero _)
  | 0, f + 1, i, v, h0, _ => by
    have e : i = c := by omega
    subst e
    unfold zf_X2_bitsRemaining_4 zf_X8_staying_4 zf_X8_many
    rw [(RC_SM hc).1, ec, Option.bind_some, if_pos (i_le.mpr (Int.le_refl _)), if_pos (i_le.mpr (Int.le_refl _))]
    exact ⟨_, rfl, rfl⟩
  | r + 1, f + 1, i, v, h0, hf => by
    have hS := RC_SM hc
    have hk : nI i < m 32 := by rw [ec]; exact (nIlt (by omega) (by omega)).mpr (by omega)
    unfold zf_X2_bitsRemaining_4 zf_X8_staying_4 zf_X8_many
    rw [hS.1, Option.bind_some, if_neg (show ¬ m 32 ≤ nI i from fun q => by have := i_lt.mp hk; have := i_le.mp q; omega), if_neg (show ¬ m 32 ≤ nI i from fun q => by have := i_lt.mp hk; have := i_le.mp q; omega), RC_te hc, remains7 hS hr.1 (by omega) hk, staying8 (MSt_self m) (by omega), ← RC_te hc, Option.bind_some, Option.bind_some]
    unfold zf_X2_bitsRemaining_27 zf_X8_staying_28
    rw [nI_1]
    cases sStay m i (t5 m)
    · obtain ⟨x, h1, h2⟩ := staying_loop hc hr hc8 ec r f (i + 1) v (by omega) (by omega)
      refine ⟨x, h1, ?_⟩
      rw [if_neg (by decide), Int32.or_zero]
      exact h2
    · obtain ⟨x, h1, h2⟩ := staying_loop hc hr hc8 ec r f (i + 1) (v ||| ((1 : Int32) <<< (nI i &&& 31))) (by omega) (by omega)
      exact ⟨x, h1, h2⟩
theorem pl_staying : PL_staying := by
  intro σ μ N hN hrel
  obtain ⟨c, -, hc8, ec⟩ := hrel.1.2.1.1
  obtain ⟨x, h1, h2⟩ := staying_loop hrel.1.1 hrel.1.2.1 hc8 ec c FU 0 0 (by omega) (by show c < 2000; omega)
  refine ⟨x, x, ?_, ?_, rfl, REL_up hrel⟩
  · unfold zf_X7_staying zf_X2_bitsRemaining
    exact (congrArg (fun z => Option.bind z _) h1)
  · exact h2
