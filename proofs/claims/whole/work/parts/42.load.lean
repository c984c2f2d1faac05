/-! pure rows: rosters taken from a shelf -/
variable {te : TTe} {st : TSt} {m : Nat → Int32} {n : Int32} {sh : TSh} {rf rfd ho sz : Nat → Int32} {el : Nat → Int64}
/-- the codes of a refusal -/
def FE (e : Int32) : Prop := e = -2 ∨ e = -3 ∨ e = -4 ∨ e = -5 ∨ e = -6
theorem FE0 {e : Int32} (h : FE e) : ¬ e = 0 := by rcases h with rfl | rfl | rfl | rfl | rfl <;> decide
theorem FEn {e : Int32} (h : FE e) : ¬ 0 ≤ e := by rcases h with rfl | rfl | rfl | rfl | rfl <;> decide
theorem FE1 {e : Int32} (h : FE e) : ¬ e = 1 := by rcases h with rfl | rfl | rfl | rfl | rfl <;> decide
theorem refB (hf : RF rf rfd) {e : Int32} (h : FE e) : ∃ a b, zf_X7_refused e rf = some (e, a) ∧ zf_X8_refuse e rfd = some (e, b) ∧ RF a b := by
  rcases h with rfl | rfl | rfl | rfl | rfl
  · exact ⟨_, _, r7_2 rf, r8_2 rfd, rf_2 hf⟩
  · exact ⟨_, _, r7_3 rf, r8_3 rfd, rf_3 hf⟩
  · exact ⟨_, _, r7_4 rf, r8_4 rfd, rf_4 hf⟩
  · exact ⟨_, _, r7_5 rf, r8_5 rfd, rf_5 hf⟩
  · exact ⟨_, _, r7_6 rf, r8_6 rfd, rf_6 hf⟩
/-- the fault of some elements of a shelf, or 0 -/
def efv (ho sz : Nat → Int32) (x1 x2 K q : Int32) (b : Bool) : Int32 := if win x1 0 7 = true then (if (b && win x2 0 K) = true then (if ho x1.toNatClampNeg < 10 then (if ho x1.toNatClampNeg = -1 then -4 else if hSt 0 (x2 * q) (sz x1.toNatClampNeg) = true then 0 else -2) else -3) else -2) else -2
theorem rowFault7 (hs : RS n sh ho sz el) (x1 : Int32) (b : Bool) : zf_X7_rowFault x1 b sh = some (if win x1 0 7 = true then (if b = true then (if ho x1.toNatClampNeg < 10 then (if ho x1.toNatClampNeg = -1 then -4 else 0) else -3) else -2) else -2) := by
  unfold zf_X7_rowFault
  rw [shelf7, Option.bind_some]
  cases h1 : win x1 0 7
  · rfl
  rw [if_pos rfl, if_pos rfl]
  cases b
  · rfl
  rw [if_pos rfl, if_pos rfl]
  obtain ⟨j, hj, rfl⟩ := win_sh h1
  rw [kpr7 hs hj, row7 hs hj, Option.bind_some, Option.bind_some, cl_nI (by omega)]
  rcases hok (hs j hj).2.2.1 with ⟨e, e1, e2⟩ | ⟨e1, e2, e3, e4⟩ | ⟨k, h8, hn, e, e1, e2, e3, e4⟩
  · rw [e1, decide_eq_true e2, if_pos e2, if_pos e]; rfl
  · rw [e1, decide_eq_true e2, if_pos e2, if_neg e3]; rfl
  · rw [e1, decide_eq_false e2, if_neg e2]; rfl
theorem elF7 (hs : RS n sh ho sz el) (x1 x2 K q : Int32) (b : Bool) : zf_X7_elementsFault x1 x2 K q b sh = some (efv ho sz x1 x2 K q b) := by
  have h21 : ∀ t, zf_X7_elementsFault_21 sh x1 x2 q t x1 = some (if win x1 0 7 = true then (if t = true then (if ho x1.toNatClampNeg < 10 then (if ho x1.toNatClampNeg = -1 then -4 else if hSt 0 (x2 * q) (sz x1.toNatClampNeg) = true then 0 else -2) else -3) else -2) else -2) := by
    intro t
    unfold zf_X7_elementsFault_21
    rw [rowFault7 hs, Option.bind_some]
    cases h1 : win x1 0 7
    · rfl
    rw [if_pos rfl, if_pos rfl]
    cases t
    · rfl
    rw [if_pos rfl, if_pos rfl]
    obtain ⟨j, hj, rfl⟩ := win_sh h1
    rw [hasSt7 hs hj, Option.bind_some, cl_nI (by omega)]
    rcases hok (hs j hj).2.2.1 with ⟨e, e1, e2⟩ | ⟨e1, e2, e3, e4⟩ | ⟨k, h8, hn, e, e1, e2, e3, e4⟩
    · rw [if_pos e2, if_pos e, if_pos e2, if_pos e]; rfl
    · rw [if_pos e2, if_neg e3, if_pos e2, if_neg e3, e1, if_pos rfl, Bool.true_and]
      cases hSt 0 (x2 * q) (sz j) <;> rfl
    · rw [if_neg e2, if_neg e2]; rfl
  unfold zf_X7_elementsFault zf_X7_elementsFault_20 efv
  rw [win7, h21, h21, Option.bind_some]
  cases b
  · rfl
  cases win x2 0 K
  · rfl
  · rfl
theorem efv_FE (ho sz : Nat → Int32) (x1 x2 K q : Int32) (b : Bool) : efv ho sz x1 x2 K q b = 0 ∨ (efv ho sz x1 x2 K q b = -2 ∨ efv ho sz x1 x2 K q b = -3 ∨ efv ho sz x1 x2 K q b = -4) := by
  unfold efv
  split
  · split
    · split
      · split
        · exact Or.inr (Or.inr (Or.inr rfl))
        · split
          · exact Or.inl rfl
          · exact Or.inr (Or.inl rfl)
      · exact Or.inr (Or.inr (Or.inl rfl))
    · exact Or.inr (Or.inl rfl)
  · exact Or.inr (Or.inl rfl)
theorem FE3 {e : Int32} (h : e = -2 ∨ e = -3 ∨ e = -4) : FE e := by rcases h with h | h | h <;> simp [FE, h]
/-- what no fault means -/
theorem efv_0 (hs : RS n sh ho sz el) {x1 x2 q : Int32} {K Q : Nat} {b : Bool} (hq : q = nI Q) (hK : K * Q ≤ 40) (hQ : 0 < Q) (h : efv ho sz x1 x2 (nI K) q b = 0) : ∃ j c, j < 8 ∧ x1 = nI j ∧ c ≤ K ∧ x2 = nI c ∧ ((c * Q : Nat) : Int) ≤ (sz j).toInt ∧ win (ho j) 0 4 = true := by
  have hK4 : K ≤ 40 := Nat.le_trans (Nat.le_mul_of_pos_right K hQ) hK
  unfold efv at h
  by_cases h1 : win x1 0 7 = true
  · rw [if_pos h1] at h
    by_cases h2 : (b && win x2 0 (nI K)) = true
    · rw [if_pos h2] at h
      obtain ⟨j, hj, rfl⟩ := win_sh h1
      rw [Bool.and_eq_true] at h2
      obtain ⟨c, hc, rfl⟩ := win_nI (by omega) h2.2
      rw [cl_nI (by omega)] at h
      by_cases h3 : ho j < 10
      · rw [if_pos h3] at h
        by_cases h4 : ho j = -1
        · rw [if_pos h4] at h; exact absurd h (by decide)
        · rw [if_neg h4] at h
          by_cases h5 : hSt 0 (nI c * q) (sz j) = true
          · refine ⟨j, c, hj, rfl, hc, rfl, ?_, ?_⟩
            · have := of_decide_eq_true h5
              have hcq : c * Q ≤ K * Q := Nat.mul_le_mul_right Q hc
              rw [hq, pk_mul, nI_t (by omega), show (0 : Int32).toInt = 0 from rfl] at this
              omega
            · rcases hok (hs j hj).2.2.1 with ⟨e, e1, e2⟩ | ⟨e1, e2, e3, e4⟩ | ⟨k, h8, hn, e, e1, e2, e3, e4⟩
              · exact absurd e h4
              · exact e1
              · exact absurd h3 e2
          · rw [if_neg h5] at h; exact absurd h (by decide)
      · rw [if_neg h3] at h; exact absurd h (by decide)
    · rw [if_neg h2] at h; exact absurd h (by decide)
  · rw [if_neg h1] at h; exact absurd h (by decide)
theorem rows8 (hs : RS n sh ho sz el) (x1 x2 : Int32) (b : Bool) : zf_X8_rows b x1 x2 ho sz = some (if efv ho sz x1 x2 40 1 b = 0 then 1 else efv ho sz x1 x2 40 1 b) := by
  unfold zf_X8_rows zf_X8_rows_23 efv
  rw [shelf8, win8 (a := 0) (b := 40) (by decide) (by decide), Option.bind_some, Option.bind_some]
  cases h1 : win x1 0 7
  · rfl
  cases h2 : win x2 0 40
  · cases b <;> rfl
  cases b
  · rfl
  rw [if_pos rfl, if_pos rfl, if_pos rfl, if_pos rfl, Bool.and_self, if_pos rfl]
  obtain ⟨j, hj, rfl⟩ := win_sh h1
  obtain ⟨c, hc, rfl⟩ := win_nI (B := 40) (by decide) h2
  have e1c : nI c * 1 = nI c := Int32.mul_one _
  rw [rowIn8 hs hj, Option.bind_some, Option.bind_some, if_pos (ix_nI hj (by decide)), cl_nI (by omega), e1c]
  rcases hok (hs j hj).2.2.1 with ⟨e, e1, e2⟩ | ⟨e1, e2, e3, e4⟩ | ⟨k, h8, hn, e, e1, e2, e3, e4⟩
  · rw [if_pos e2, if_pos e, if_pos e2, if_pos e]; rfl
  · rw [if_pos e2, if_neg e3, if_pos e2, if_neg e3, if_pos (by decide)]
    by_cases hz : nI c ≤ sz j
    · rw [if_pos hz, if_pos (show hSt 0 (nI c) (sz j) = true from decide_eq_true (by have := i_le.mp hz; rw [nI_t (by omega)] at this ⊢; rw [show (0 : Int32).toInt = 0 from rfl]; omega))]; rfl
    · rw [if_neg hz, if_neg (show ¬ hSt 0 (nI c) (sz j) = true from fun y => hz (i_le.mpr (by have := of_decide_eq_true y; rw [show (0 : Int32).toInt = 0 from rfl] at this; omega)))]; rfl
  · rw [if_neg e2, if_neg e2]; rfl
theorem elAt7 (hs : RS n sh ho sz el) {j i : Nat} (hj : j < 8) (hi : i < 40) (hw : win (ho j) 0 4 = true) (hz : (i : Int) < (sz j).toInt) : zf_X1_elementAt (nI j) (nI i) sh = some (el (40 * j + i)) := by
  unfold zf_X1_elementAt
  rw [hasEl7 hs hj, hw, Option.bind_some, Bool.true_and, (hEl_iff (hs j hj).2.2.2.1).mpr (by rw [nI_t (by omega)]; omega), if_pos rfl, if_pos (ix_nI hj (by decide)), if_pos (ix_nI hi (by decide)), cl_nI (by omega), cl_nI (by omega), (hs j hj).2.2.2.2 i hi]
theorem told8 (el : Nat → Int64) {j i : Nat} (hj : j < 8) (hi : i < 40) : zf_X8_told (nI j) (nI i) el = some (el (40 * j + i)) := by
  unfold zf_X8_told
  rw [nI_40 j i hj hi, if_pos (ix_nI (by omega) (by decide)), cl_nI (by omega)]
theorem isO_64 {v : Int64} (hn : bnd (m 32) 0 8) (h : isO (m 32) v = true) : ORD m v.toInt32 := by
  have e : v.toInt32.toInt64 = v ∨ True := Or.inr trivial
  unfold isO at h
  rw [Bool.or_eq_true, Bool.or_eq_true] at h
  rcases h with h | h | h
  · have h := of_decide_eq_true h
    subst h
    exact Or.inl rfl
  · have h := of_decide_eq_true h
    subst h
    exact Or.inr (Or.inl rfl)
  · have hK := h
    obtain ⟨a, b⟩ := of_decide_eq_true h
    obtain ⟨h1, h2⟩ := (bnd_iff (by decide)).mp hn
    have a := l_le.mp a
    have b := l_lt.mp b
    rw [i_w] at b
    have e0 : (0 : Int64).toInt = 0 := rfl
    have ev : v = (nI v.toInt.toNat).toInt64 := l_eq.mpr (by rw [i_w, nI_t (by omega)]; omega)
    refine Or.inr (Or.inr ⟨v.toInt.toNat, by omega, i_lt.mpr (by rw [nI_t (by omega)]; omega), ?_⟩)
    conv => lhs; rw [ev]
    exact Int32.toInt32_toInt64 _
theorem wrong_loop (hs : RS (m 32) sh ho sz el) (hS : st.1 = m 32) (hn : bnd (m 32) 0 8) {j c : Nat} (hj : j < 8) (hc : c ≤ 40) (hw : win (ho j) 0 4 = true) (hz : (c : Int) ≤ (sz j).toInt) : ∀ (r f i : Nat) (ros : Nat → Int32), i + r = c → r < f → (∀ q, q < i → ros q = (el (40 * j + q)).toInt32 ∧ isO (m 32) (el (40 * j + q)) = true) → (∃ q ros', q < 40 ∧ zf_X7_wrongPlace_2 st sh f (nI j) (nI c) (nI i) = some (nI q) ∧ zf_X8_wrong_2 m el f (nI j) (nI c) (nI i) ros = some (nI q, ros')) ∨ (∃ ros', zf_X7_wrongPlace_2 st sh f (nI j) (nI c) (nI i) = some (-1) ∧ zf_X8_wrong_2 m el f (nI j) (nI c) (nI i) ros = some (-1, ros') ∧ ∀ q, q < c → ros' q = (el (40 * j + q)).toInt32 ∧ isO (m 32) (el (40 * j + q)) = true)
  | _, 0, _, _, _, h, _ => absurd h (Nat.not_lt_zero _)
  | 0, f + 1, i, ros, h0, _, h1 => by
    have e : i = c := by omega
    subst e
    unfold zf_X7_wrongPlace_2 zf_X8_wrong_2
    rw [if_pos (i_le.mpr (Int.le_refl _)), if_pos (i_le.mpr (Int.le_refl _))]
    exact Or.inr ⟨ros, rfl, rfl, h1⟩
  | r + 1, f + 1, i, ros, h0, hf, h1 => by
    have hq : ¬ nI c ≤ nI i := nle (by omega) (by omega)
    unfold zf_X7_wrongPlace_2 zf_X8_wrong_2
    rw [if_neg hq, if_neg hq, elAt7 hs hj (by omega) hw (by omega), told8 el hj (by omega), Option.bind_some, Option.bind_some, Option.bind_some, order7 _ hS, order8 _ hn, Option.bind_some, Option.bind_some]
    cases ho' : isO (m 32) (el (40 * j + i))
    · exact Or.inl ⟨i, ros, by omega, rfl, rfl⟩
    · rw [if_pos rfl, if_pos rfl, if_pos (ix_nI (by omega) (by decide)), nI_1, cl_nI (by omega)]
      refine wrong_loop hs hS hn hj hc hw hz r f (i + 1) _ (by omega) (by omega) (fun q hq => ?_)
      by_cases e : q = i
      · subst e; rw [upd_s]; exact ⟨rfl, ho'⟩
      · rw [upd_n e]; exact h1 q (by omega)
theorem plan_loop (hs : RS n sh ho sz el) {j c : Nat} (hj : j < 8) (hc : c ≤ 40) (hw : win (ho j) 0 4 = true) (hz : (c : Int) ≤ (sz j).toInt) : ∀ (r f i : Nat) (pl : Nat → Int32), i + r = c → r < f → (∀ q, q < i → pl q = (el (40 * j + q)).toInt32) → ∃ pl', zf_X7_takePlan_2 sh f (nI j) (nI c) (nI i) pl = some pl' ∧ ∀ q, q < c → pl' q = (el (40 * j + q)).toInt32
  | _, 0, _, _, _, h, _ => absurd h (Nat.not_lt_zero _)
  | 0, f + 1, i, pl, h0, _, h1 => by
    have e : i = c := by omega
    subst e
    unfold zf_X7_takePlan_2
    rw [if_pos (i_le.mpr (Int.le_refl _))]
    exact ⟨pl, rfl, h1⟩
  | r + 1, f + 1, i, pl, h0, hf, h1 => by
    have hq : ¬ nI c ≤ nI i := nle (by omega) (by omega)
    have hq2 : ¬ (48 : Int32) ≤ nI i := nle (a := 48) (by omega) (by decide)
    unfold zf_X7_takePlan_2
    rw [if_neg hq, if_neg hq2, elAt7 hs hj (by omega) hw (by omega), Option.bind_some, if_pos (ix_nI (by omega) (by decide)), nI_1, cl_nI (by omega)]
    refine plan_loop hs hj hc hw hz r f (i + 1) _ (by omega) (by omega) (fun q hq => ?_)
    by_cases e : q = i
    · subst e; rw [upd_s]
    · rw [upd_n e]; exact h1 q (by omega)
theorem load_both (hs : RS (m 32) sh ho sz el) (hS : st.1 = m 32) (hn : bnd (m 32) 0 8) (x1 x2 : Int32) (b : Bool) (pl ros : Nat → Int32) : (∃ e ros', FE e ∧ zf_X7_takeRoster x1 x2 b st sh pl = some (e, pl) ∧ zf_X8_load b x1 x2 m ho sz el ros = some (e, ros')) ∨ (∃ c pl' ros', c ≤ 40 ∧ x2 = nI c ∧ b = true ∧ zf_X7_takeRoster x1 x2 b st sh pl = some (0, pl') ∧ zf_X8_load b x1 x2 m ho sz el ros = some (1, ros') ∧ ∀ i, i < c → pl' i = ros' i ∧ ORD m (ros' i)) := by
  unfold zf_X7_takeRoster zf_X8_load
  rw [elF7 hs, rows8 hs, Option.bind_some, Option.bind_some]
  by_cases h : efv ho sz x1 x2 40 1 b = 0
  · have hb : b = true := by
      cases b
      · unfold efv at h
        rw [Bool.false_and, if_neg Bool.false_ne_true] at h
        by_cases y : win x1 0 7 = true
        · rw [if_pos y] at h; exact absurd h (by decide)
        · rw [if_neg y] at h; exact absurd h (by decide)
      · rfl
    obtain ⟨j, c, hj, e1, hc, e2, hz, hw⟩ := efv_0 hs (K := 40) (Q := 1) rfl (by decide) (by decide) h
    rw [h, if_pos rfl, if_pos rfl, if_pos rfl]
    rw [Nat.mul_one] at hz
    unfold zf_X7_wrongPlace zf_X8_wrong zf_X7_takePlan
    subst e1 e2
    obtain ⟨pl', p1, p2⟩ := plan_loop hs hj hc hw hz c FU 0 pl (by omega) (by show c < 2000; omega) (fun q hq => absurd hq (Nat.not_lt_zero _))
    rcases wrong_loop hs hS hn hj hc hw hz c FU 0 ros (by omega) (by show c < 2000; omega) (fun q hq => absurd hq (Nat.not_lt_zero _)) with ⟨q, ros', hq, k1, k2⟩ | ⟨ros', k1, k2, k3⟩
    · refine Or.inl ⟨-5, ros', Or.inr (Or.inr (Or.inr (Or.inl rfl))), ?_, ?_⟩
      · rw [show (0 : Int32) = nI 0 from rfl, k1, Option.bind_some, if_neg (show ¬ nI q = -1 from fun y => by have := i_eq.mp y; rw [nI_t (by omega), show (-1 : Int32).toInt = -1 from rfl] at this; omega)]
      · rw [show (0 : Int32) = nI 0 from rfl, k2, Option.bind_some, if_neg (show ¬ nI q = -1 from fun y => by have := i_eq.mp y; rw [nI_t (by omega), show (-1 : Int32).toInt = -1 from rfl] at this; omega)]
    · refine Or.inr ⟨c, pl', ros', hc, rfl, hb, ?_, ?_, fun i hi => ⟨(p2 i hi).trans (k3 i hi).1.symm, (k3 i hi).1 ▸ isO_64 hn (k3 i hi).2⟩⟩
      · rw [show (0 : Int32) = nI 0 from rfl, k1, p1, Option.bind_some, if_pos rfl]; rfl
      · rw [show (0 : Int32) = nI 0 from rfl, k2, Option.bind_some, if_pos rfl]
  · have hFE := FE3 ((efv_FE ho sz x1 x2 40 1 b).resolve_left h)
    rw [if_neg h, if_neg h, if_neg (FE1 hFE)]
    exact Or.inl ⟨_, ros, hFE, rfl, rfl⟩
theorem q_judge {ros : Nat → Int32} (hc : RC te st m) (hr : RNG m) (hf : RF rf rfd) (hs : RS (m 32) sh ho sz el) (x1 x2 : Int32) : ∃ r1 r2, zf_X7_judge x1 x2 st sh rf = some r1 ∧ zf_X8_judge x1 x2 rfd m ho sz el ros = some r2 ∧ r1.1 = r2.1 ∧ RF r1.2 r2.2.1 := by
  unfold zf_X7_judge zf_X8_judge
  rw [elF7 hs, rows8 hs, Option.bind_some, Option.bind_some]
  by_cases h : efv ho sz x1 x2 40 1 true = 0
  · obtain ⟨j, c, hj, e1, hcc, e2, hz, hw⟩ := efv_0 hs (K := 40) (Q := 1) rfl (by decide) (by decide) h
    rw [h, if_pos rfl, if_pos rfl, if_pos (by decide)]
    rw [Nat.mul_one] at hz
    unfold zf_X7_wrongPlace zf_X8_wrong
    subst e1 e2
    rcases wrong_loop hs (RC_SM hc).1 hr.1 hj hcc hw hz c FU 0 ros (by omega) (by show c < 2000; omega) (fun q hq => absurd hq (Nat.not_lt_zero _)) with ⟨q, ros', hq, k1, k2⟩ | ⟨ros', k1, k2, k3⟩
    · rw [show (0 : Int32) = nI 0 from rfl, k1, k2]
      exact ⟨_, _, rfl, rfl, rfl, hf⟩
    · rw [show (0 : Int32) = nI 0 from rfl, k1, k2]
      exact ⟨_, _, rfl, rfl, rfl, hf⟩
  · have hFE := FE3 ((efv_FE ho sz x1 x2 40 1 true).resolve_left h)
    obtain ⟨a, b, k1, k2, k3⟩ := refB hf hFE
    rw [if_neg h, if_neg h, if_neg (FEn hFE), k1, k2]
    exact ⟨_, _, rfl, rfl, rfl, k3⟩
theorem pl_judge : PL_judge := by
  intro σ μ x1 x2 N hN hrel
  obtain ⟨hc, hk, hf, hs, ht, ha, hwd⟩ := hrel
  obtain ⟨r1, r2, h1, h2, h3, h4⟩ := q_judge (ros := μ.2.2.2.2.2.2.2.2.2.2.2.2.2.2.2.2.2.1) hc.1 hc.2.1 hf hs x1 x2
  exact ⟨r1, r2, h1, h2, h3, hc, hk, h4, hs, ht, ha, up hwd⟩
