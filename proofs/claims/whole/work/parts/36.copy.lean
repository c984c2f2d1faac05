/-! pure rows: copy and says -/
variable {n : Int32} {sh : TSh} {rf rfd ho sz : Nat → Int32} {el mv : Nat → Int64}
theorem cp_out (ho sz : Nat → Int32) (rf : Nat → Int32) {j1 a c : Nat} (h1 : j1 < 8) (hc : a + c ≤ 40) (x2 x4 : Int32) (el : Nat → Int64) : ∀ (r f i : Nat) (mv : Nat → Int64), i + r = c → r < f → (∀ k, k < i → mv k = el (40 * j1 + a + k)) → ∃ mv', zf_X8_copy_160 ho sz f (nI j1) x2 (nI a) x4 (nI c) (nI i) rf el mv = zf_X8_copy_197 ho sz FU x2 x4 (nI c) 0 rf el mv' ∧ ∀ k, k < c → mv' k = el (40 * j1 + a + k)
  | _, 0, _, _, _, h, _ => absurd h (Nat.not_lt_zero _)
  | 0, f + 1, i, mv, h0, _, h => by
    have e : i = c := by omega
    subst e
    unfold zf_X8_copy_160
    rw [if_pos (i_le.mpr (Int.le_refl _))]
    exact ⟨mv, rfl, h⟩
  | r + 1, f + 1, i, mv, h0, hf, h => by
    have e : (40 : Int32) * nI j1 + nI a + nI i = nI (40 * j1 + a + i) := by rw [nI_40 j1 a h1 (by omega), nI_add]
    unfold zf_X8_copy_160
    rw [if_neg (nle (by omega) (by omega)), e, if_pos (ix_nI (by omega) (by decide)), if_pos (ix_nI (by omega) (by decide)), nI_1, cl_nI (by omega), cl_nI (by omega)]
    refine cp_out ho sz rf h1 hc x2 x4 el r f (i + 1) _ (by omega) (by omega) (fun k hk => ?_)
    by_cases e : k = i
    · subst e; rw [updL_s]
    · rw [updL_n e]; exact h k (by omega)
theorem cp_in (ho sz : Nat → Int32) (rf : Nat → Int32) {j2 b c : Nat} (h2 : j2 < 8) (hc : b + c ≤ 40) (mv : Nat → Int64) : ∀ (r f i : Nat) (el : Nat → Int64), i + r = c → r < f → ∃ el', zf_X8_copy_197 ho sz f (nI j2) (nI b) (nI c) (nI i) rf el mv = some (nI c, rf, el', mv) ∧ ∀ q, el' q = if 40 * j2 + b + i ≤ q ∧ q < 40 * j2 + b + c then mv (q - (40 * j2 + b)) else el q
  | _, 0, _, _, _, h => absurd h (Nat.not_lt_zero _)
  | 0, f + 1, i, el, h0, _ => by
    have e : i = c := by omega
    subst e
    unfold zf_X8_copy_197
    rw [if_pos (i_le.mpr (Int.le_refl _))]
    exact ⟨el, rfl, fun q => by rw [if_neg (by omega)]⟩
  | r + 1, f + 1, i, el, h0, hf => by
    have e : (40 : Int32) * nI j2 + nI b + nI i = nI (40 * j2 + b + i) := by rw [nI_40 j2 b h2 (by omega), nI_add]
    unfold zf_X8_copy_197
    rw [if_neg (nle (by omega) (by omega)), e, if_pos (ix_nI (by omega) (by decide)), if_pos (ix_nI (by omega) (by decide)), nI_1, cl_nI (by omega), cl_nI (by omega)]
    obtain ⟨el', e1, e2⟩ := cp_in ho sz rf h2 hc mv r f (i + 1) (vp_updL el (40 * j2 + b + i) (mv i)) (by omega) (by omega)
    refine ⟨el', e1, fun q => ?_⟩
    rw [e2]
    by_cases g : q = 40 * j2 + b + i
    · subst g
      rw [if_neg (by omega), updL_s, if_pos (by omega)]
      congr 1
      omega
    · rw [updL_n g]
      by_cases g2 : 40 * j2 + b + i ≤ q ∧ q < 40 * j2 + b + c
      · rw [if_pos g2, if_pos (by omega)]
      · rw [if_neg g2, if_neg (by omega)]
/-- a stretch that the row has -/
def hSt (x c y : Int32) : Bool := decide (0 ≤ c.toInt ∧ 0 ≤ x.toInt ∧ x.toInt + c.toInt ≤ y.toInt)
theorem hasSt7 (hs : RS n sh ho sz el) {j : Nat} (hj : j < 8) (x c : Int32) : zf_X1_hasStretch (nI j) x c sh = some (win (ho j) 0 4 && hSt x c (sz j)) := by
  unfold zf_X1_hasStretch
  rw [row7 hs hj, Option.bind_some]
  cases win (ho j) 0 4
  · rfl
  rw [if_pos rfl, Bool.true_and, cl_nI (by omega), (hs j hj).2.1, if_pos (ix_nI hj (by decide)), if_pos (ix_nI hj (by decide))]
  obtain ⟨ha, hb⟩ := (bnd_iff (by decide)).mp (hs j hj).2.2.2.1
  have e0 : (0 : Int32).toInt = 0 := rfl
  unfold hSt
  by_cases a : c < 0
  · rw [if_pos a, decide_eq_false (fun q => by have := i_lt.mp a; omega)]
  · rw [if_neg a]
    have a := i_nlt a
    by_cases b : x < 0
    · rw [if_pos b, decide_eq_false (fun q => by have := i_lt.mp b; omega)]
    · rw [if_neg b]
      have b := i_nlt b
      by_cases d : sz j < x
      · rw [if_pos d, decide_eq_false (fun q => by have := i_lt.mp d; omega)]
      · rw [if_neg d]
        have d := i_nlt d
        have es : (sz j - x).toInt = (sz j).toInt - x.toInt := i_sub (by omega) (by omega)
        by_cases g : sz j - x < c
        · rw [if_pos g, decide_eq_false (fun q => by have := i_lt.mp g; omega)]
        · rw [if_neg g, decide_eq_true (by have := i_nlt g; omega)]
theorem two7 (hs : RS n sh ho sz el) {j1 j2 : Nat} (h1 : j1 < 8) (h2 : j2 < 8) : zf_X1_areOfTwoSorts (nI j1) (nI j2) sh = some (win (ho j1) 0 4 && (win (ho j2) 0 4 && !decide (ho j1 = ho j2))) := by
  unfold zf_X1_areOfTwoSorts
  rw [row7 hs h1, row7 hs h2, cont7 hs h1, cont7 hs h2]
  simp only [Option.bind_some]
  cases win (ho j1) 0 4
  · rfl
  cases win (ho j2) 0 4
  · rfl
  rw [if_pos rfl, if_pos rfl, Bool.true_and, Bool.true_and, if_nd]
theorem hSt8 {j : Nat} (hs : RS n sh ho sz el) (hj : j < 8) {x c : Int32} (hc : 0 ≤ c.toInt) (hx : 0 ≤ x.toInt) : sz j - x < c ↔ hSt x c (sz j) = false := by
  obtain ⟨ha, hb⟩ := (bnd_iff (by decide)).mp (hs j hj).2.2.2.1
  have hr := i_rng x
  have es : (sz j - x).toInt = (sz j).toInt - x.toInt := i_sub (by omega) (by omega)
  unfold hSt
  rw [i_lt, es, decide_eq_false_iff_not]
  omega
theorem q_copy (hf : RF rf rfd) (hs : RS n sh ho sz el) (x1 x2 x3 x4 x5 : Int32) : ∃ r1 r2, zf_X7_copy x1 x2 x3 x4 x5 sh rf = some r1 ∧ zf_X8_copy x1 x2 x3 x4 x5 rfd ho sz el mv = some r2 ∧ r1.1 = r2.1 ∧ RF r1.2.2 r2.2.1 ∧ RS n r1.2.1 ho sz r2.2.2.1 := by
  have hno : ∃ r1 r2, zf_X7_copy_14 sh rf = some r1 ∧ zf_X8_copy_14 ho sz rfd el mv = some r2 ∧ r1.1 = r2.1 ∧ RF r1.2.2 r2.2.1 ∧ RS n r1.2.1 ho sz r2.2.2.1 := by
    unfold zf_X7_copy_14 zf_X8_copy_14
    rw [r7_2, r8_2]
    exact ⟨_, _, rfl, rfl, rfl, rf_2 hf, hs⟩
  have hn2 : ∃ r1 r2, zf_X7_copy_120 sh rf = some r1 ∧ zf_X8_copy_150 ho sz rfd el mv = some r2 ∧ r1.1 = r2.1 ∧ RF r1.2.2 r2.2.1 ∧ RS n r1.2.1 ho sz r2.2.2.1 := by
    unfold zf_X7_copy_120 zf_X8_copy_150
    rw [r7_2, r8_2]
    exact ⟨_, _, rfl, rfl, rfl, rf_2 hf, hs⟩
  have hn3 : ∃ r1 r2, zf_X7_copy_55 sh rf = some r1 ∧ zf_X8_copy_90 ho sz rfd el mv = some r2 ∧ r1.1 = r2.1 ∧ RF r1.2.2 r2.2.1 ∧ RS n r1.2.1 ho sz r2.2.2.1 := by
    unfold zf_X7_copy_55 zf_X8_copy_90
    rw [r7_3, r8_3]
    exact ⟨_, _, rfl, rfl, rfl, rf_3 hf, hs⟩
  have hn4 : ∀ a b c d e, ∃ r1 r2, zf_X7_copy_84 sh rf = some r1 ∧ zf_X8_copy_97 ho sz a b c d e false rfd el mv = some r2 ∧ r1.1 = r2.1 ∧ RF r1.2.2 r2.2.1 ∧ RS n r1.2.1 ho sz r2.2.2.1 := by
    intro a b c d e
    unfold zf_X7_copy_84 zf_X8_copy_97
    rw [r7_4, r8_4]
    exact ⟨_, _, rfl, rfl, rfl, rf_4 hf, hs⟩
  unfold zf_X7_copy zf_X8_copy
  rw [shelf7, shelf7, shelf8, shelf8]
  simp only [Option.bind_some]
  cases h1 : win x1 0 7
  · exact hno
  cases h2 : win x2 0 7
  · exact hno
  simp only [if_true]
  obtain ⟨j1, hj1, rfl⟩ := win_sh h1
  obtain ⟨j2, hj2, rfl⟩ := win_sh h2
  have i1 := ix_nI hj1 (n := 8) (by decide)
  have i2 := ix_nI hj2 (n := 8) (by decide)
  rw [kpr7 hs hj1, kpr7 hs hj2, two7 hs hj1 hj2, row7 hs hj1, row7 hs hj2, hasSt7 hs hj1, hasSt7 hs hj2]
  unfold zf_X8_copy_45
  rw [if_pos i1, if_pos i2, cl_nI (by omega), cl_nI (by omega)]
  simp only [Option.bind_some]
  have m46 : ∀ b, zf_X8_copy_46 ho sz (nI j1) (nI j2) x3 x4 x5 b rfd el mv = (if (10 : Int32) ≤ ho j1 then zf_X8_copy_90 ho sz rfd el mv else if (10 : Int32) ≤ ho j2 then zf_X8_copy_90 ho sz rfd el mv else if b then (if ho j1 = ho j2 then zf_X8_copy_97 ho sz (nI j1) (nI j2) x3 x4 x5 b rfd el mv else zf_X8_copy_90 ho sz rfd el mv) else zf_X8_copy_97 ho sz (nI j1) (nI j2) x3 x4 x5 b rfd el mv) := by
    intro b
    unfold zf_X8_copy_46
    rw [if_pos i1, if_pos i2, if_pos i1, if_pos i2, cl_nI (by omega), cl_nI (by omega)]
  rw [m46, m46]
  have ge : ∀ x : Int32, ¬ x < 10 → (10 : Int32) ≤ x := fun x h => i_le.mpr (i_nlt h)
  have ng : ∀ x : Int32, x < 10 → ¬ (10 : Int32) ≤ x := fun x h q => by have := i_lt.mp h; have := i_le.mp q; omega
  by_cases k1 : ho j1 < 10
  · rw [decide_eq_true k1, if_neg (ng _ k1), if_neg (ng _ k1)]
    by_cases k2 : ho j2 < 10
    · rw [decide_eq_true k2, if_neg (ng _ k2), if_neg (ng _ k2)]
      simp only [Bool.not_true, Bool.false_eq_true, if_false, if_true]
      rcases hok (hs j1 hj1).2.2.1 with ⟨e, e1, e2⟩ | ⟨e1, e2, e3, e4⟩ | ⟨k, h8, hn, e, e1, e2, e3, e4⟩
      · rw [e1, if_pos e]
        simp only [Bool.false_and, Bool.false_eq_true, if_false]
        exact hn4 _ _ _ _ _
      · rw [e1, if_neg e3]
        rcases hok (hs j2 hj2).2.2.1 with ⟨d, d1, d2⟩ | ⟨d1, d2, d3, d4⟩ | ⟨k, h8, hn, e, d1, d2, d3, d4⟩
        · rw [d1, if_pos d]
          simp only [Bool.false_and, Bool.true_and, Bool.false_eq_true, if_false, if_true]
          exact hn4 _ _ _ _ _
        · rw [d1, if_neg d3]
          simp only [Bool.true_and]
          by_cases eh : ho j1 = ho j2
          · rw [if_pos eh, decide_eq_true eh]
            simp only [Bool.not_true, Bool.false_eq_true, if_false, if_true]
            unfold zf_X8_copy_97
            rw [if_pos rfl, if_pos i1, if_pos i2, cl_nI (by omega), cl_nI (by omega)]
            have e0 : (0 : Int32).toInt = 0 := rfl
            by_cases p5 : x5 < 0
            · rw [if_pos p5, show hSt x3 x5 (sz j1) = false from decide_eq_false (fun q => by have := i_lt.mp p5; omega)]
              exact hn2
            have q5 := i_nlt p5
            by_cases p3 : x3 < 0
            · rw [if_neg p5, if_pos p3, show hSt x3 x5 (sz j1) = false from decide_eq_false (fun q => by have := i_lt.mp p3; omega)]
              exact hn2
            have q3 := i_nlt p3
            by_cases p4 : x4 < 0
            · rw [if_neg p5, if_neg p3, if_pos p4, show hSt x4 x5 (sz j2) = false from decide_eq_false (fun q => by have := i_lt.mp p4; omega)]
              cases hSt x3 x5 (sz j1)
              · exact hn2
              · exact hn2
            have q4 := i_nlt p4
            rw [if_neg p5, if_neg p3, if_neg p4]
            cases s1 : hSt x3 x5 (sz j1)
            · rw [if_pos ((hSt8 hs hj1 (by omega) (by omega)).mpr s1)]
              exact hn2
            have y1 : ¬ (sz j1 - x3 < x5) := (fun q => by have := (hSt8 hs hj1 (by omega) (by omega)).mp q; rw [s1] at this; cases this)
            rw [if_neg y1]
            cases s2 : hSt x4 x5 (sz j2)
            · have := i_lt.mp ((hSt8 hs hj2 (by omega) (by omega)).mpr s2)
              rw [if_neg (show ¬ (x5 ≤ sz j2 - x4) from fun q => by have := i_le.mp q; omega)]
              exact hn2
            have y2 : ¬ (sz j2 - x4 < x5) := (fun q => by have := (hSt8 hs hj2 (by omega) (by omega)).mp q; rw [s2] at this; cases this)
            rw [if_pos (i_le.mpr (i_nlt y2))]
            have t1 := of_decide_eq_true s1
            have t2 := of_decide_eq_true s2
            obtain ⟨_, b1⟩ := (bnd_iff (by decide)).mp (hs j1 hj1).2.2.2.1
            obtain ⟨_, b2⟩ := (bnd_iff (by decide)).mp (hs j2 hj2).2.2.2.1
            obtain ⟨c, l5, hc⟩ : ∃ c : Nat, x5.toInt = c ∧ x5 = nI c := ⟨x5.toInt.toNat, by omega, i_eq.mpr (by rw [nI_t (by omega)]; omega)⟩
            obtain ⟨a, l3, ha⟩ : ∃ c : Nat, x3.toInt = c ∧ x3 = nI c := ⟨x3.toInt.toNat, by omega, i_eq.mpr (by rw [nI_t (by omega)]; omega)⟩
            obtain ⟨b, l4, hb⟩ : ∃ c : Nat, x4.toInt = c ∧ x4 = nI c := ⟨x4.toInt.toNat, by omega, i_eq.mpr (by rw [nI_t (by omega)]; omega)⟩
            have hm : zf_X1_moveStretch (nI j1) (nI j2) x3 x4 x5 sh = some (sh.1, sh.2.1, va_up sh.2.2 j2 (va_cpy (sh.2.2 j1) (sh.2.2 j2) a b c)) := by
              unfold zf_X1_moveStretch
              rw [hasSt7 hs hj1, hasSt7 hs hj2, s1, s2, e1, d1]
              simp only [Option.bind_some, Bool.and_self, if_true]
              rw [if_pos i1, if_pos i2, if_pos (show cpOk x3 x4 x5 40 40 = true from decide_eq_true (by omega)), cl_nI (by omega), cl_nI (by omega), ha, hb, hc, cl_nI (by omega), cl_nI (by omega), cl_nI (by omega)]
            obtain ⟨mv', f1, f2⟩ := cp_out ho sz rfd hj1 (a := a) (c := c) (by omega) (nI j2) x4 el c FU 0 mv (by omega) (by show c < 2000; omega) (fun k hk => absurd hk (Nat.not_lt_zero _))
            obtain ⟨el', g1, g2⟩ := cp_in ho sz rfd hj2 (b := b) (c := c) (by omega) mv' c FU 0 el (by omega) (by show c < 2000; omega)
            have hx : zf_X8_copy_160 ho sz FU (nI j1) (nI j2) x3 x4 x5 0 rfd el mv = some (nI c, rfd, el', mv') := by
              rw [hb] at f1
              rw [ha, hb, hc]
              exact f1.trans g1
            rw [hm, hx]
            refine ⟨_, _, rfl, rfl, hc, hf, fun q hq => ?_⟩
            obtain ⟨o1, o2, o3, o4, o5⟩ := hs q hq
            refine ⟨o1, o2, o3, o4, fun k hk => ?_⟩
            show va_up sh.2.2 j2 _ q k = el' _
            rw [g2]
            by_cases z : q = j2
            · subst z
              rw [vaup_s]
              unfold va_cpy
              by_cases z2 : b ≤ k ∧ k < b + c
              · rw [if_pos z2, if_pos (by omega), f2 _ (by omega), (hs j1 hj1).2.2.2.2 _ (by omega)]
                congr 1
                omega
              · rw [if_neg z2, if_neg (by omega)]
                exact o5 k hk
            · rw [vaup_n z, if_neg (by omega)]
              exact o5 k hk
          · rw [if_neg eh, decide_eq_false eh]
            exact hn3
        · exact absurd k2 d2
      · exact absurd k1 e2
    · rw [decide_eq_false k2, if_pos (ge _ k2), if_pos (ge _ k2)]
      simp only [Bool.not_true, Bool.not_false, Bool.false_eq_true, if_false, if_true]
      split
      · exact hn3
      split
      · exact hn3
      · exact hn3
  · rw [decide_eq_false k1, if_pos (ge _ k1), if_pos (ge _ k1)]
    simp only [Bool.not_false, if_true]
    split
    · exact hn3
    split
    · exact hn3
    · exact hn3
theorem pl_copy : PL_copy := by
  intro σ μ x1 x2 x3 x4 x5 N hN hrel
  obtain ⟨hc, hk, hf, hs, ht, ha, hwd⟩ := hrel
  obtain ⟨r1, r2, h1, h2, h3, h4, h5⟩ := q_copy (mv := μ.2.2.2.2.2.2.2.2.2.2.2.2.2.2.2.1) hf hs x1 x2 x3 x4 x5
  exact ⟨r1, r2, h1, h2, h3, hc, hk, h4, h5, ht, ha, up hwd⟩
/-- up the kinds, from d to w -/
def upk (d w : Nat) : Bool := decide (w = d) || decide (w = 0) || (decide (d = 3) && decide (w = 1)) || (decide (d = 4) && decide (w = 2))
theorem says68 (m ho : Nat → Int32) (x v3 : Int32) (rf : Nat → Int32) : ∀ d, d < 6 → ∀ w, w < 6 → zf_X8_says_68 m ho zABO0 FU (nI w) v3 (nI d) rf = zf_X8_says_92 m ho zABO0 (nI w) v3 (if upk d w then nI w else -1) rf := by
  intro d hd w hw
  have hd : d = 0 ∨ d = 1 ∨ d = 2 ∨ d = 3 ∨ d = 4 ∨ d = 5 := by omega
  have hw : w = 0 ∨ w = 1 ∨ w = 2 ∨ w = 3 ∨ w = 4 ∨ w = 5 := by omega
  rcases hd with rfl | rfl | rfl | rfl | rfl | rfl <;> rcases hw with rfl | rfl | rfl | rfl | rfl | rfl <;> rfl
theorem says68n (m ho : Nat → Int32) (v2 v3 : Int32) (rf : Nat → Int32) : zf_X8_says_68 m ho zABO0 FU v2 v3 (-1) rf = zf_X8_says_92 m ho zABO0 v2 v3 (-1) rf := rfl
theorem q_says {te : TTe} {st : TSt} {m : Nat → Int32} (hc : RC te st m) (hr : RNG m) (hf : RF rf rfd) (hs : RS (m 32) sh ho sz el) (x1 x2 : Int32) : ∃ r1 r2, zf_X7_says x1 x2 te st sh rf = some r1 ∧ zf_X8_says x1 x2 rfd m ho zABO0 = some r2 ∧ r1.1 = r2.1 ∧ RF r1.2 r2.2 := by
  have hno : ∃ r1 r2, zf_X7_says_16 te st sh rf = some r1 ∧ zf_X8_says_19 m ho zABO0 rfd = some r2 ∧ r1.1 = r2.1 ∧ RF r1.2 r2.2 := by
    unfold zf_X7_says_16 zf_X8_says_19
    rw [r7_2, r8_2]
    exact ⟨_, _, rfl, rfl, rfl, rf_2 hf⟩
  have n3 : ∀ v2 v3, zf_X8_says_92 m ho zABO0 v2 v3 (-1) rfd = some (-3, upd rfd 3 (rfd 3 + 1)) := by
    intro v2 v3
    unfold zf_X8_says_92
    rw [if_pos rfl, r8_3]
    rfl
  unfold zf_X7_says zf_X8_says zf_X8_says_66
  rw [shelf7, shelf8, win7, win8 (a := 0) (b := 5) (by decide) (by decide)]
  simp only [Option.bind_some]
  cases h1 : win x1 0 7
  · exact hno
  cases h2 : win x2 0 5
  · exact hno
  simp only [if_true]
  obtain ⟨j, hj, rfl⟩ := win_sh h1
  obtain ⟨w, hw, rfl⟩ := win_nI (B := 5) (by decide) h2
  have i1 := ix_nI hj (n := 8) (by decide)
  rw [row7 hs hj, kpr7 hs hj, cont7 hs hj, if_pos i1, if_pos i1, cl_nI (by omega)]
  simp only [Option.bind_some]
  rcases hok (hs j hj).2.2.1 with ⟨e, e1, e2⟩ | ⟨e1, e2, e3, e4⟩ | ⟨k, h8, hn, e, e1, e2, e3, e4⟩
  · rw [e1, decide_eq_true e2, if_pos e, r8_4]
    simp only [Bool.not_true, Bool.false_eq_true, if_false, Option.bind_some]
    rw [r7_4]
    exact ⟨_, _, rfl, rfl, rfl, rf_4 hf⟩
  · rw [e1, if_neg e3, if_neg (show ¬ (0 : Int32) ≤ ho j - 10 from fun q => by
      have q := i_le.mp q
      obtain ⟨b1, b2⟩ := (bnd_iff (by decide)).mp e4
      rw [i_sub (by show _ ≤ _ - (10 : Int); omega) (by show _ - (10 : Int) < _; omega), show (10 : Int32).toInt = 10 from rfl, show (0 : Int32).toInt = 0 from rfl] at q
      omega), says68n, n3]
    simp only [if_true]
    rw [r7_3]
    exact ⟨_, _, rfl, rfl, rfl, rf_3 hf⟩
  · have hS := RC_SM hc
    have hK := RNG_KR hr
    rw [e1, decide_eq_false e2, if_neg e3, e4, if_pos (show (0 : Int32) ≤ nI k from i_le.mpr (by rw [nI_t (by omega)]; show (0 : Int) ≤ _; omega)), kind8 h8]
    simp only [Bool.not_false, Bool.false_eq_true, if_false, if_true, Option.bind_some]
    obtain ⟨d, hd, hdm⟩ := num_nI (hK.2 k h8).1
    unfold zf_X2_kindOf zf_X2_nerveOf
    have i2 := ix_nI h8 (n := 8) (by decide)
    rw [hasK hS hK.1 h8 hn]
    simp only [Option.bind_some, if_true]
    rw [if_pos i2, cl_nI (by omega), (hS.2 k h8).1, hdm, Option.bind_some, under7 d (by omega) w (by omega), says68 m ho 0 _ _ d (by omega) w (by omega), Option.bind_some]
    show ∃ r1 r2, (if upk d w = true then _ else _) = some r1 ∧ _
    cases hu : upk d w
    · simp only [Bool.false_eq_true, if_false]
      rw [n3, r7_3]
      exact ⟨_, _, rfl, rfl, rfl, rf_3 hf⟩
    · simp only [if_true]
      unfold zf_X8_says_92
      rw [if_neg (show ¬ nI w = -1 from fun q => by have := i_eq.mp q; rw [nI_t (by omega), show (-1 : Int32).toInt = -1 from rfl] at this; omega)]
      by_cases w0 : nI w = 0
      · rw [if_pos w0, if_pos w0, nerve8 h8, if_pos i2, (hS.2 k h8).2.2]
        exact ⟨_, _, rfl, rfl, rfl, hf⟩
      · rw [if_neg w0, if_neg w0, RC_te hc, soothed7 hS hK h8 hn, soothes8 (MSt_self m) h8, Option.bind_some, Option.bind_some, bound99]
        exact ⟨_, _, rfl, rfl, rfl, hf⟩
theorem pl_says : PL_says := by
  intro σ μ x1 x2 N hN hrel
  obtain ⟨hc, hk, hf, hs, ht, ha, hwd⟩ := hrel
  obtain ⟨r1, r2, h1, h2, h3, h4⟩ := q_says hc.1 hc.2.1 hf hs x1 x2
  rw [ha.symm] at h2
  exact ⟨r1, r2, h1, h2, h3, hc, hk, h4, hs, ht, ha, up hwd⟩
