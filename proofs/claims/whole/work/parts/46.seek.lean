/-! pure rows: what is sought over all rages, nerves, orders -/
variable {te : TTe} {st : TSt} {m : Nat → Int32} {n : Int32} {sh : TSh} {rf rfd ho sz mi : Nat → Int32} {el : Nat → Int64}
/-- the order of place i, with c keepers -/
def ordAt (c i : Nat) : Int32 := if i = c + 1 then 10 else nI i - 1
theorem m1_nI {i : Nat} (h : 0 < i) (h2 : i < 2147483648) : nI i - 1 = nI (i - 1) := by
  refine i_eq.mpr ?_
  rw [i_sub (by rw [nI_t (by omega)]; show _ ≤ _ - (1 : Int); omega) (by rw [nI_t (by omega)]; show _ - (1 : Int) < _; omega), nI_t (by omega), nI_t (by omega), show (1 : Int32).toInt = 1 from rfl]
  omega
theorem ordAt_ORD {c i : Nat} (hc8 : c ≤ 8) (ec : m 32 = nI c) (hi : i < c + 2) : ORD m (ordAt c i) := by
  unfold ordAt
  by_cases e : i = c + 1
  · rw [if_pos e]; exact Or.inr (Or.inl rfl)
  · rw [if_neg e]
    by_cases z : i = 0
    · subst z; exact Or.inl rfl
    · rw [m1_nI (by omega) (by omega)]
      exact Or.inr (Or.inr ⟨i - 1, by omega, by rw [ec]; exact (nIlt (by omega) (by omega)).mpr (by omega), rfl⟩)
theorem ordAt7 {c i : Nat} (hS : st.1 = m 32) (hc8 : c ≤ 8) (ec : m 32 = nI c) (hi : i < c + 2) : zf_X2_orderAt (nI i) st = some (ordAt c i) := by
  unfold zf_X2_orderAt ordAt
  rw [hS, ec]
  by_cases e : i = c + 1
  · rw [if_pos e, if_pos (show nI c < nI i from (nIlt (by omega) (by omega)).mpr (by omega))]
  · rw [if_neg e, if_neg (show ¬ nI c < nI i from fun y => by have := (nIlt (by omega) (by omega)).mp y; omega)]
theorem ordAt8 {c i : Nat} (hc8 : c ≤ 8) (ec : m 32 = nI c) (hi : i < c + 2) : zf_X8_orderAt (nI i) m = some (ordAt c i) := by
  unfold zf_X8_orderAt ordAt zf_X8_many
  rw [ec, Option.bind_some, nI_1]
  by_cases e : i = c + 1
  · rw [if_pos e, if_pos (show nI i = nI (c + 1) from (nIeq (by omega) (by omega)).mpr e)]
  · rw [if_neg e, if_neg (show ¬ nI i = nI (c + 1) from fun y => e ((nIeq (by omega) (by omega)).mp y))]
theorem best_loop (hc : RC te st m) (hr : RNG m) {c q : Nat} (hc8 : c ≤ 8) (ec : m 32 = nI c) (hq : q ≤ 2) : ∀ (r f i : Nat) (v2 v3 w3 : Int32) (tr : TTe) (mi : Nat → Int32) (fl : Bool), i + r = c + 2 → r < f → (v3 = w3 ∨ (v3 = 1000000 ∧ w3 = 2147483647)) → ∃ v tr' mi' fl', zf_X7_bestNow_24 te st f (nI q) v2 v3 (nI i) tr rf = some (v, tr', rf) ∧ zf_X8_bestNow_27 f (nI q) v2 w3 (nI i) rfd m mi fl = some (v, rfd, m, mi', fl')
  | _, 0, _, _, _, _, _, _, _, _, h, _ => absurd h (Nat.not_lt_zero _)
  | 0, f + 1, i, v2, v3, w3, tr, mi, fl, h0, _, _ => by
    have e : i = c + 2 := by omega
    subst e
    unfold zf_X7_bestNow_24 zf_X8_bestNow_27 zf_X7_orderCount zf_X8_many
    rw [(RC_SM hc).1, ec, Option.bind_some, Option.bind_some, show nI c + 2 = nI (c + 2) from nI_add c 2, if_pos (i_le.mpr (Int.le_refl _)), if_pos (i_le.mpr (Int.le_refl _))]
    exact ⟨_, _, _, _, rfl, rfl⟩
  | r + 1, f + 1, i, v2, v3, w3, tr, mi, fl, h0, hf, he => by
    have hn : ¬ nI (c + 2) ≤ nI i := nle (by omega) (by omega)
    have hO := ordAt_ORD (m := m) hc8 ec (i := i) (by omega)
    obtain ⟨f', e1⟩ := try7 hc hr hO tr
    unfold zf_X7_bestNow_24 zf_X8_bestNow_27 zf_X7_orderCount zf_X8_many zf_X7_bestNow_70 zf_X8_bestNow_71 zf_X7_bestNow_91 zf_X8_bestNow_89
    rw [(RC_SM hc).1, ec, Option.bind_some, Option.bind_some, show nI c + 2 = nI (c + 2) from nI_add c 2, if_neg hn, if_neg hn, ordAt7 (RC_SM hc).1 hc8 ec (by omega), ordAt8 hc8 ec (by omega), Option.bind_some, Option.bind_some, e1, then8n hr hO (i := q) (by omega)]
    simp only [Option.bind_some]
    rw [ordAt8 hc8 ec (by omega), nI_1]
    simp only [Option.bind_some]
    -- the value
    have key : ∀ x : Int32, x.toInt < 1000000 → ∃ v tr' mi' fl', (if v3 ≤ x then zf_X7_bestNow_24 te st f (nI q) v2 v3 (nI (i + 1)) (te5 (sHr m (ordAt c i) (t5 m)) (sHm m (ordAt c i) (t5 m)) f') rf else zf_X7_bestNow_24 te st f (nI q) (ordAt c i) x (nI (i + 1)) (te5 (sHr m (ordAt c i) (t5 m)) (sHm m (ordAt c i) (t5 m)) f') rf) = some (v, tr', rf) ∧ (if w3 ≤ x then zf_X8_bestNow_27 f (nI q) v2 (if w3 < x then w3 else x) (nI (i + 1)) rfd m (kp 0 m mi) (sFl m (ordAt c i) (t5 m)) else zf_X8_bestNow_27 f (nI q) (ordAt c i) (if w3 < x then w3 else x) (nI (i + 1)) rfd m (kp 0 m mi) (sFl m (ordAt c i) (t5 m))) = some (v, rfd, m, mi', fl') := by
      intro x hx
      rcases he with he | ⟨e1, e2⟩
      · subst he
        by_cases y : v3 ≤ x
        · have e : (if v3 < x then v3 else x) = v3 := by
            by_cases z : v3 < x
            · rw [if_pos z]
            · rw [if_neg z]
              exact i_eq.mpr (by have := i_le.mp y; have := i_nlt z; omega)
          rw [if_pos y, if_pos y, e]
          exact best_loop hc hr hc8 ec hq r f (i + 1) _ _ _ _ _ _ (by omega) (by omega) (Or.inl rfl)
        · have e : (if v3 < x then v3 else x) = x := if_neg (fun z => y (i_le.mpr (by have := i_lt.mp z; omega)))
          rw [if_neg y, if_neg y, e]
          exact best_loop hc hr hc8 ec hq r f (i + 1) _ _ _ _ _ _ (by omega) (by omega) (Or.inl rfl)
      · subst e1 e2
        have y1 : ¬ (1000000 : Int32) ≤ x := fun y => by have := i_le.mp y; rw [show (1000000 : Int32).toInt = 1000000 from rfl] at this; omega
        have y2 : ¬ (2147483647 : Int32) ≤ x := fun y => by have := i_le.mp y; rw [show (2147483647 : Int32).toInt = 2147483647 from rfl] at this; omega
        have e : (if (2147483647 : Int32) < x then (2147483647 : Int32) else x) = x := if_neg (fun z => by have := i_lt.mp z; rw [show (2147483647 : Int32).toInt = 2147483647 from rfl] at this; omega)
        rw [if_neg y1, if_neg y2, e]
        exact best_loop hc hr hc8 ec hq r f (i + 1) _ _ _ _ _ _ (by omega) (by omega) (Or.inl rfl)
    have hT : TR (sHr m (ordAt c i) (t5 m)) := TR_hr (RNG_TR hr)
    have hq3 : q = 0 ∨ q = 1 ∨ q = 2 := by omega
    rcases hq3 with rfl | rfl | rfl
    · exact key (thV m (ordAt c i) (t5 m) 0) (by
        show (sHr m (ordAt c i) (t5 m)).1.toInt < 1000000
        have := hT.1.2
        omega)
    · exact key (-(thV m (ordAt c i) (t5 m) 1)) (by
        show (-(sHr m (ordAt c i) (t5 m)).2.1).toInt < 1000000
        have h := hT.2.1
        rw [← Int32.zero_sub, i_sub (by show _ ≤ (0 : Int) - _; omega) (by show (0 : Int) - _ < _; omega)]
        show (0 : Int) - _ < _
        omega)
    · exact key (thV m (ordAt c i) (t5 m) 2) (by
        show (sHr m (ordAt c i) (t5 m)).2.2.1.toInt < 1000000
        have := hT.2.2.1.2
        omega)
theorem q_bestNow {tr : TTe} {fl : Bool} (hc : RC te st m) (hr : RNG m) (hf : RF rf rfd) (x1 : Int32) : ∃ r1 r2, zf_X7_bestNow x1 te tr st rf = some r1 ∧ zf_X8_bestNow x1 rfd m mi fl = some r2 ∧ r1.1 = r2.1 ∧ r2.2.2.1 = m ∧ RF r1.2.2 r2.2.1 := by
  unfold zf_X7_bestNow zf_X8_bestNow
  rw [win7, win8 (a := 0) (b := 2) (by decide) (by decide), Option.bind_some, Option.bind_some]
  cases h1 : win x1 0 2
  · rw [r7_2, r8_2]
    exact ⟨_, _, rfl, rfl, rfl, rfl, rf_2 hf⟩
  rw [if_pos rfl, if_pos rfl]
  obtain ⟨q, hq, rfl⟩ := win_nI (B := 2) (by decide) h1
  obtain ⟨c, -, hc8, ec⟩ := hr.1
  obtain ⟨v, tr', mi', fl', k1, k2⟩ := best_loop (rf := rf) (rfd := rfd) hc hr hc8 ec hq (c + 2) FU 0 (-1) 1000000 2147483647 tr mi fl (by omega) (by show c + 2 < 2000; omega) (Or.inr ⟨rfl, rfl⟩)
  exact ⟨_, _, k1, k2, rfl, rfl, hf⟩
theorem pl_bestNow : PL_bestNow := by
  intro σ μ x1 N hN hrel
  obtain ⟨hc, hk, hf, hs, ht, ha, hwd⟩ := hrel
  obtain ⟨r1, r2, h1, h2, h3, h4, h5⟩ := q_bestNow (tr := σ.2.1) (mi := μ.2.2.2.1) (fl := μ.2.2.2.2.2.2.2.2.2.2.2.1) hc.1 hc.2.1 hf x1
  exact ⟨r1, r2, h1, h2, h3, eqc h4 hc, hk, h5, eqs h4 hs, ht, ha, upE h4 hwd⟩
/-- the first of r numbers from i on that is meant -/
def frs (P : Nat → Bool) : Nat → Nat → Int32
  | _, 0 => -1
  | i, r + 1 => if P i = true then nI i else frs P (i + 1) r
theorem dn (i : Nat) (h : i + 1 < 2147483648) : nI (i + 1) + (-1) = nI i := by
  refine i_eq.mpr ?_
  rw [i_add (by rw [nI_t (by omega)]; show _ ≤ _ + (-1 : Int); omega) (by rw [nI_t (by omega)]; show _ + (-1 : Int) < _; omega), nI_t (by omega), nI_t (by omega), show (-1 : Int32).toInt = -1 from rfl]
  omega
theorem lt99 {i : Nat} (h : i ≤ 99) : ¬ (99 : Int32) < nI i := fun q => by have := i_lt.mp q; rw [nI_t (by omega), show (99 : Int32).toInt = 99 from rfl] at this; omega
theorem nn0 {i : Nat} (h : i < 2147483648) : ¬ nI i < 0 := fun q => by have := i_lt.mp q; rw [nI_t h, show (0 : Int32).toInt = 0 from rfl] at this; omega
theorem flees7_loop (hS : SM st m) (hn : bnd (m 32) 0 8) {k : Nat} (h8 : k < 8) (hk : nI k < m 32) (tx : TTe) (b : Bool) (f0 : Int32) (t' : Int32 × Int32 × Int32 × Int32) : ∀ (r f i : Nat) (x : Int32), i + r = 100 → r < f → ∃ tr', zf_X7_flees_31 tx st f (nI k) (nI i) (te5 (x, t') b f0) rf = some (frs (fun j => !sStay m k (nI j, t')) i r, tr', rf)
  | _, 0, _, _, _, h => absurd h (Nat.not_lt_zero _)
  | 0, f + 1, i, x, h0, _ => by
    have e : i = 100 := by omega
    subst e
    unfold zf_X7_flees_31
    rw [if_pos (by decide)]
    exact ⟨_, rfl⟩
  | r + 1, f + 1, i, x, h0, hf => by
    unfold zf_X7_flees_31 frs
    rw [if_neg (lt99 (by omega))]
    have e := remains7 hS hn h8 hk (nI i, t') b f0
    have e' : zf_X2_remains (nI k) st (nI i, (te5 (x, t') b f0).2.1, (te5 (x, t') b f0).2.2.1, (te5 (x, t') b f0).2.2.2.1, (te5 (x, t') b f0).2.2.2.2.1, (te5 (x, t') b f0).2.2.2.2.2.1, (te5 (x, t') b f0).2.2.2.2.2.2) = _ := e
    rw [e', Option.bind_some, nI_1]
    cases hs : sStay m k (nI i, t')
    · exact ⟨_, rfl⟩
    · exact flees7_loop hS hn h8 hk tx b f0 t' r f (i + 1) (nI i) (by omega) (by omega)
theorem MSt_33 {μ : Nat → Int32} (h : ∀ j, j ≠ 33 → μ j = m j) (r : Int32) : upd μ 33 r = upd m 33 r := by
  funext j
  by_cases e : j = 33
  · subst e; rw [upd_s, upd_s]
  · rw [upd_n e, upd_n e]; exact h j e
theorem flees8_loop {k : Nat} (h8 : k < 8) : ∀ (i f r : Nat) (μ : Nat → Int32), i + r = 100 → i < f → (∀ j, j ≠ 33 → μ j = m j) → zf_X8_flees_30 f (nI k) (m 33) (frs (fun j => !sStay m k (nI j, (t5 m).2)) i r) (nI i + (-1)) rfd μ = some (frs (fun j => !sStay m k (nI j, (t5 m).2)) 0 100, rfd, m)
  | _, 0, _, _, _, h, _ => absurd h (Nat.not_lt_zero _)
  | 0, f + 1, r, μ, h0, _, hM => by
    have e : r = 100 := by omega
    subst e
    unfold zf_X8_flees_30
    rw [if_pos (by decide), MSt_33 hM, upd_self]
  | i + 1, f + 1, r, μ, h0, hf, hM => by
    unfold zf_X8_flees_30 zf_X8_flees_58
    rw [dn i (by omega), if_neg (nn0 (by omega)), MSt_33 hM, staying8 (MS33 (MSt_self m) (nI i)) h8, Option.bind_some]
    have ih := flees8_loop h8 i f (r + 1) (upd m 33 (nI i)) (by omega) (by omega) (fun j hj => upd_n hj)
    have ef : frs (fun j => !sStay m k (nI j, (t5 m).2)) i (r + 1) = if (!sStay m k (nI i, (t5 m).2)) = true then nI i else frs (fun j => !sStay m k (nI j, (t5 m).2)) (i + 1) r := rfl
    rw [ef] at ih
    cases hs : sStay m k (nI i, (t5 m).2)
    · rw [hs] at ih; exact ih
    · rw [hs] at ih; exact ih
theorem q_flees {tr : TTe} (hc : RC te st m) (hr : RNG m) (hf : RF rf rfd) (x1 : Int32) : ∃ r1 r2, zf_X7_flees x1 te tr st rf = some r1 ∧ zf_X8_flees x1 rfd m = some r2 ∧ r1.1 = r2.1 ∧ r2.2.2 = m ∧ RF r1.2.2 r2.2.1 := by
  have hS := RC_SM hc
  unfold zf_X7_flees zf_X8_flees
  rw [hasKx hS hr.1, keeper8 _ hr.1, Option.bind_some, Option.bind_some]
  cases h1 : isK (m 32) x1.toInt64
  · rw [r7_2, r8_2]
    exact ⟨_, _, rfl, rfl, rfl, rfl, rf_2 hf⟩
  rw [if_pos rfl, if_pos rfl, becomeM hc, Option.bind_some]
  obtain ⟨k, h8, hk, rfl⟩ := isK_32 hr.1 h1
  obtain ⟨tr', k1⟩ := flees7_loop (rf := rf) hS hr.1 h8 hk te tr.2.2.2.2.2.1 tr.2.2.2.2.2.2 (t5 m).2 100 FU 0 (t5 m).1 rfl (by decide)
  have k2 : zf_X8_flees_30 FU (nI k) (m 33) (-1) 99 rfd m = _ := flees8_loop (rfd := rfd) h8 100 FU 0 m rfl (by decide) (fun _ _ => rfl)
  have k1' : zf_X7_flees_31 te st FU (nI k) 0 (te5 (t5 m) tr.2.2.2.2.2.1 tr.2.2.2.2.2.2) rf = _ := k1
  rw [k1', k2]
  exact ⟨_, _, rfl, rfl, rfl, rfl, hf⟩
theorem pl_flees : PL_flees := by
  intro σ μ x1 N hN hrel
  obtain ⟨hc, hk, hf, hs, ht, ha, hwd⟩ := hrel
  obtain ⟨r1, r2, h1, h2, h3, h4, h5⟩ := q_flees (tr := σ.2.1) hc.1 hc.2.1 hf x1
  exact ⟨r1, r2, h1, h2, h3, eqc h4 hc, hk, h5, eqs h4 hs, ht, ha, upE h4 hwd⟩

theorem lt40 {i : Nat} (h : i ≤ 40) : ¬ (40 : Int32) < nI i := fun q => by have := i_lt.mp q; rw [nI_t (by omega), show (40 : Int32).toInt = 40 from rfl] at this; omega
theorem SM_nerve {a : TSt} (hs : SM a m) {k : Nat} (h8 : k < 8) (x : Int32) : SM (a.1, a.2.1, a.2.2.1, upd a.2.2.2.1 k x, a.2.2.2.2) (upd m (4 * k + 2) x) := by
  refine ⟨hs.1.trans (upd_n (by omega)).symm, fun q hq => ?_⟩
  obtain ⟨k0, k1, k2⟩ := hs.2 q hq
  show _ = _ ∧ _ = _ ∧ upd _ _ _ q = _
  rw [upd_n (j := 4 * q) (by omega), upd_n (j := 4 * q + 1) (by omega)]
  refine ⟨k0, k1, ?_⟩
  by_cases e : q = k
  · subst e; rw [upd_s, upd_s]
  · rw [upd_n e, upd_n (by omega)]; exact k2
theorem needs7_loop (hc : RC te st m) (hr : RNG m) {k : Nat} (h8 : k < 8) (hk : nI k < m 32) : ∀ (r f i : Nat) (ts : TSt) (x : Int32), i + r = 41 → r < f → SM ts (upd m (4 * k + 2) x) → ∃ ts', zf_X7_needs_31 te st f (nI k) (nI i) ts rf = some (frs (fun j => sStay (upd m (4 * k + 2) (nI j)) k (t5 m)) i r, ts', rf)
  | _, 0, _, _, _, _, h, _ => absurd h (Nat.not_lt_zero _)
  | 0, f + 1, i, ts, x, h0, _, _ => by
    have e : i = 41 := by omega
    subst e
    unfold zf_X7_needs_31
    rw [if_pos (by decide)]
    exact ⟨_, rfl⟩
  | r + 1, f + 1, i, ts, x, h0, hf, hS => by
    unfold zf_X7_needs_31 frs zf_X2_putNerve
    have e32 : upd m (4 * k + 2) x 32 = m 32 := upd_n (by omega)
    have f32 : upd m (4 * k + 2) (nI i) 32 = m 32 := upd_n (by omega)
    have hS2 := SM_nerve hS h8 (nI i)
    rw [upd_upd] at hS2
    rw [if_neg (lt40 (by omega)), hasK hS (e32 ▸ hr.1) h8 (e32 ▸ hk), Option.bind_some, if_pos rfl, if_pos (ix_nI h8 (by decide)), cl_nI (by omega), Option.bind_some]
    have e := remains7 hS2 (f32 ▸ hr.1) h8 (f32 ▸ hk) (t5 m) te.2.2.2.2.2.1 te.2.2.2.2.2.2
    rw [← RC_te hc] at e
    rw [e, Option.bind_some, nI_1]
    cases hs : sStay (upd m (4 * k + 2) (nI i)) k (t5 m)
    · exact needs7_loop hc hr h8 hk r f (i + 1) _ (nI i) (by omega) (by omega) hS2
    · exact ⟨_, rfl⟩
theorem upd_q {μ : Nat → Int32} {q : Nat} (h : ∀ j, j ≠ q → μ j = m j) (r : Int32) : upd μ q r = upd m q r := by
  funext j
  by_cases e : j = q
  · subst e; rw [upd_s, upd_s]
  · rw [upd_n e, upd_n e]; exact h j e
theorem needs8_loop {k : Nat} (h8 : k < 8) : ∀ (i f r : Nat) (μ : Nat → Int32), i + r = 41 → i < f → (∀ j, j ≠ 4 * k + 2 → μ j = m j) → zf_X8_needs_28 f (nI k) (m (4 * k + 2)) (frs (fun j => sStay (upd m (4 * k + 2) (nI j)) k (t5 m)) i r) (nI i + (-1)) rfd μ = some (frs (fun j => sStay (upd m (4 * k + 2) (nI j)) k (t5 m)) 0 41, rfd, m)
  | _, 0, _, _, _, h, _ => absurd h (Nat.not_lt_zero _)
  | 0, f + 1, r, μ, h0, _, hM => by
    have e : r = 41 := by omega
    subst e
    have E2 : (4 : Int32) * nI k + 2 = nI (4 * k + 2) := e4a k 2
    unfold zf_X8_needs_28
    rw [if_pos (by decide), E2, if_pos (ix_nI (by omega) (by decide)), cl_nI (by omega), upd_q hM, upd_self]
  | i + 1, f + 1, r, μ, h0, hf, hM => by
    have E2 : (4 : Int32) * nI k + 2 = nI (4 * k + 2) := e4a k 2
    unfold zf_X8_needs_28 zf_X8_needs_59
    have et : t5 (upd m (4 * k + 2) (nI i)) = t5 m := by
      unfold t5
      rw [upd_n (by omega), upd_n (by omega), upd_n (by omega), upd_n (by omega), upd_n (by omega)]
    have est := staying8 (MSt_self (upd m (4 * k + 2) (nI i))) h8
    rw [et] at est
    rw [dn i (by omega), if_neg (nn0 (by omega)), E2, if_pos (ix_nI (by omega) (by decide)), cl_nI (by omega), upd_q hM, est, Option.bind_some]
    have ih := needs8_loop h8 i f (r + 1) (upd m (4 * k + 2) (nI i)) (by omega) (by omega) (fun j hj => upd_n hj)
    have ef : frs (fun j => sStay (upd m (4 * k + 2) (nI j)) k (t5 m)) i (r + 1) = if sStay (upd m (4 * k + 2) (nI i)) k (t5 m) = true then nI i else frs (fun j => sStay (upd m (4 * k + 2) (nI j)) k (t5 m)) (i + 1) r := rfl
    rw [ef] at ih
    cases hs : sStay (upd m (4 * k + 2) (nI i)) k (t5 m)
    · rw [hs] at ih; exact ih
    · rw [hs] at ih; exact ih
theorem q_needs {ts : TSt} (hc : RC te st m) (hr : RNG m) (hf : RF rf rfd) (x1 : Int32) : ∃ r1 r2, zf_X7_needs x1 te st ts rf = some r1 ∧ zf_X8_needs x1 rfd m = some r2 ∧ r1.1 = r2.1 ∧ r2.2.2 = m ∧ RF r1.2.2 r2.2.1 := by
  have hS := RC_SM hc
  unfold zf_X7_needs zf_X8_needs
  rw [hasKx hS hr.1, keeper8 _ hr.1, Option.bind_some, Option.bind_some]
  cases h1 : isK (m 32) x1.toInt64
  · rw [r7_2, r8_2]
    exact ⟨_, _, rfl, rfl, rfl, rfl, rf_2 hf⟩
  obtain ⟨k, h8, hk, rfl⟩ := isK_32 hr.1 h1
  obtain ⟨s, b1, b2⟩ := become7 ts st
  rw [if_pos rfl, if_pos rfl, b1, Option.bind_some, nerve8 h8, Option.bind_some]
  have hs2 : SM s (upd m (4 * k + 2) (m (4 * k + 2))) := by rw [upd_self]; exact SE_SM b2 hS
  obtain ⟨ts', k1⟩ := needs7_loop (rf := rf) hc hr h8 hk 41 FU 0 s _ rfl (by decide) hs2
  have k2 : zf_X8_needs_28 FU (nI k) (m (4 * k + 2)) (-1) 40 rfd m = _ := needs8_loop (rfd := rfd) h8 41 FU 0 m rfl (by decide) (fun _ _ => rfl)
  have k1' : zf_X7_needs_31 te st FU (nI k) 0 s rf = _ := k1
  rw [k1', k2]
  exact ⟨_, _, rfl, rfl, rfl, rfl, hf⟩
theorem pl_needs : PL_needs := by
  intro σ μ x1 N hN hrel
  obtain ⟨hc, hk, hf, hs, ht, ha, hwd⟩ := hrel
  obtain ⟨r1, r2, h1, h2, h3, h4, h5⟩ := q_needs (ts := σ.2.2.2.2.2.1) hc.1 hc.2.1 hf x1
  exact ⟨r1, r2, h1, h2, h3, eqc h4 hc, hk, h5, eqs h4 hs, ht, ha, upE h4 hwd⟩
