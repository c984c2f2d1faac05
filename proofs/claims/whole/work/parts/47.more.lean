/-! pure rows: calmFor, brave, better, still, of -/
variable {te : TTe} {st : TSt} {m : Nat → Int32} {n : Int32} {sh : TSh} {rf rfd ho sz mi : Nat → Int32} {el : Nat → Int64}
def cfP (m : Nat → Int32) (x : Int32) (j : Nat) : Bool := !decide (x < (sEnd (sMeet (m 33, nI j, (t5 m).2.2))).1)
theorem sHr10 (m : Nat → Int32) (t : T5) : sHr m 10 t = sEnd (sMeet t) := by unfold sHr; rw [sHr_m]
theorem calm7_loop (hc : RC te st m) (hr : RNG m) (x : Int32) : ∀ (r f i : Nat) (tr : TTe), i + r = 100 → r < f → ∃ tr', zf_X7_calmFor_19 te st f x (nI i) tr rf = some (frs (cfP m x) i r, tr', rf)
  | _, 0, _, _, _, h => absurd h (Nat.not_lt_zero _)
  | 0, f + 1, i, tr, h0, _ => by
    have e : i = 100 := by omega
    subst e
    unfold zf_X7_calmFor_19
    rw [if_pos (by decide)]
    exact ⟨_, rfl⟩
  | r + 1, f + 1, i, tr, h0, hf => by
    unfold zf_X7_calmFor_19 frs
    obtain ⟨f', p1, -, -⟩ := pass7 (RC_SM hc) (RNG_KR hr) (o := 10) (Or.inr (Or.inl rfl)) (m 33, nI i, (t5 m).2.2) tr.2.2.2.2.2.1 tr.2.2.2.2.2.2
    have p1' : zf_X5_pass 10 ((te5 (t5 m) tr.2.2.2.2.2.1 tr.2.2.2.2.2.2).1, nI i, (te5 (t5 m) tr.2.2.2.2.2.1 tr.2.2.2.2.2.2).2.2.1, (te5 (t5 m) tr.2.2.2.2.2.1 tr.2.2.2.2.2.2).2.2.2.1, (te5 (t5 m) tr.2.2.2.2.2.1 tr.2.2.2.2.2.2).2.2.2.2.1, (te5 (t5 m) tr.2.2.2.2.2.1 tr.2.2.2.2.2.2).2.2.2.2.2.1, (te5 (t5 m) tr.2.2.2.2.2.1 tr.2.2.2.2.2.2).2.2.2.2.2.2) st = some (te5 (sHr m 10 (m 33, nI i, (t5 m).2.2)) (sHm m 10 (m 33, nI i, (t5 m).2.2)) f') := p1
    rw [if_neg (lt99 (by omega)), becomeM hc, Option.bind_some, p1', Option.bind_some, nI_1]
    show ∃ tr', (if x < (sHr m 10 (m 33, nI i, (t5 m).2.2)).1 then _ else _) = some (if cfP m x i = true then _ else _, _, _)
    unfold cfP
    rw [sHr10]
    by_cases y : x < (sEnd (sMeet (m 33, nI i, (t5 m).2.2))).1
    · rw [if_pos y, decide_eq_true y, if_neg (by decide)]
      exact calm7_loop hc hr x r f (i + 1) _ (by omega) (by omega)
    · rw [if_neg y, decide_eq_false y]
      exact ⟨_, rfl⟩
theorem calm8_loop (hr : RNG m) (x : Int32) : ∀ (i f r : Nat) (μ mi : Nat → Int32) (fl : Bool), i + r = 100 → i < f → (∀ j, j ≠ 34 → μ j = m j) → ∃ mi' fl', zf_X8_calmFor_33 f x (m 34) (frs (cfP m x) i r) (nI i + (-1)) rfd μ mi fl = some (frs (cfP m x) 0 100, rfd, m, mi', fl')
  | _, 0, _, _, _, _, _, h, _ => absurd h (Nat.not_lt_zero _)
  | 0, f + 1, r, μ, mi, fl, h0, _, hM => by
    have e : r = 100 := by omega
    subst e
    unfold zf_X8_calmFor_33
    rw [if_pos (by decide), upd_q hM, upd_self]
    exact ⟨_, _, rfl⟩
  | i + 1, f + 1, r, μ, mi, fl, h0, hf, hM => by
    have hT : TR (m 33, nI i, (t5 m).2.2) := ⟨(RNG_TR hr).1, ⟨by show 0 ≤ (nI i).toInt; rw [nI_t (by omega)]; omega, by show (nI i).toInt ≤ 99; rw [nI_t (by omega)]; omega⟩, (RNG_TR hr).2.2⟩
    have hR : RNG (upd m 34 (nI i)) := MSt_RNG hr hT (MS34 (MSt_self m) (nI i))
    have et : t5 (upd m 34 (nI i)) = (m 33, nI i, (t5 m).2.2) := by
      unfold t5
      rw [upd_s, upd_n (by omega), upd_n (by omega), upd_n (by omega), upd_n (by omega)]
    have e8 := then8n hR (o := 10) (Or.inr (Or.inl rfl)) (i := 0) (by omega) mi fl
    have e8' : zf_X8_then 10 0 (upd m 34 (nI i) 33) (upd m 34 (nI i)) mi fl = _ := e8
    unfold zf_X8_calmFor_33 zf_X8_calmFor_71
    rw [dn i (by omega), if_neg (nn0 (by omega)), upd_q hM, e8', Option.bind_some]
    show ∃ mi' fl', (if x < (sHr (upd m 34 (nI i)) 10 (t5 (upd m 34 (nI i)))).1 then _ else _) = _
    rw [sHr10, et]
    obtain ⟨mi', fl', ih⟩ := calm8_loop hr x i f (r + 1) (upd m 34 (nI i)) (kp 0 (upd m 34 (nI i)) mi) (sFl (upd m 34 (nI i)) 10 (t5 (upd m 34 (nI i)))) (by omega) (by omega) (fun j hj => upd_n hj)
    have ef : frs (cfP m x) i (r + 1) = if cfP m x i = true then nI i else frs (cfP m x) (i + 1) r := rfl
    rw [ef] at ih
    rw [et] at ih
    refine ⟨mi', fl', ?_⟩
    by_cases y : x < (sEnd (sMeet (m 33, nI i, (t5 m).2.2))).1
    · have ec : cfP m x i = false := by unfold cfP; rw [decide_eq_true y]; rfl
      rw [ec, if_neg Bool.false_ne_true] at ih
      rw [if_pos y]; exact ih
    · have ec : cfP m x i = true := by unfold cfP; rw [decide_eq_false y]; rfl
      rw [ec, if_pos rfl] at ih
      rw [if_neg y]; exact ih
theorem q_calmFor {tr : TTe} {fl : Bool} (hc : RC te st m) (hr : RNG m) (hf : RF rf rfd) (x1 : Int32) : ∃ r1 r2, zf_X7_calmFor x1 te tr st rf = some r1 ∧ zf_X8_calmFor x1 rfd m mi fl = some r2 ∧ r1.1 = r2.1 ∧ r2.2.2.1 = m ∧ RF r1.2.2 r2.2.1 := by
  unfold zf_X7_calmFor zf_X8_calmFor
  rw [win7, win8 (a := 0) (b := 99) (by decide) (by decide), Option.bind_some, Option.bind_some]
  cases h1 : win x1 0 99
  · rw [r7_2, r8_2]
    exact ⟨_, _, rfl, rfl, rfl, rfl, rf_2 hf⟩
  rw [if_pos rfl, if_pos rfl]
  obtain ⟨tr', k1⟩ := calm7_loop (rf := rf) hc hr x1 100 FU 0 tr rfl (by decide)
  obtain ⟨mi', fl', k2⟩ := calm8_loop (rfd := rfd) hr x1 100 FU 0 m mi fl rfl (by decide) (fun _ _ => rfl)
  have k1' : zf_X7_calmFor_19 te st FU x1 0 tr rf = _ := k1
  have k2' : zf_X8_calmFor_33 FU x1 (m 34) (-1) 99 rfd m mi fl = _ := k2
  rw [k1', k2']
  exact ⟨_, _, rfl, rfl, rfl, rfl, hf⟩
theorem pl_calmFor : PL_calmFor := by
  intro σ μ x1 N hN hrel
  obtain ⟨hc, hk, hf, hs, ht, ha, hwd⟩ := hrel
  obtain ⟨r1, r2, h1, h2, h3, h4, h5⟩ := q_calmFor (tr := σ.2.1) (mi := μ.2.2.2.1) (fl := μ.2.2.2.2.2.2.2.2.2.2.2.1) hc.1 hc.2.1 hf x1
  exact ⟨r1, r2, h1, h2, h3, eqc h4 hc, hk, h5, eqs h4 hs, ht, ha, upE h4 hwd⟩
theorem RC_33 (hc : RC te st m) (x : Int32) : RC (x, te.2) st (upd m 33 x) := by
  have g : ∀ j, j ≠ 33 → upd m 33 x j = m j := fun j hj => upd_n hj
  obtain ⟨g1, g2, g3, g4, g5, g6, gk⟩ := hc
  refine ⟨upd_s.symm, g2.trans (g _ (by decide)).symm, g3.trans (g _ (by decide)).symm, g4.trans (g _ (by decide)).symm, g5.trans (g _ (by decide)).symm, g6.trans (g _ (by decide)).symm, fun k hk => ?_⟩
  rw [g _ (by omega), g _ (by omega), g _ (by omega), g _ (by omega)]
  exact gk k hk
theorem q_brave {tr : TTe} (hc : RC te st m) (hr : RNG m) (hf : RF rf rfd) (x1 : Int32) : ∃ r1 r2, zf_X7_brave x1 te tr st rf = some r1 ∧ zf_X8_brave x1 rfd m = some r2 ∧ r1.1 = r2.1 ∧ r2.2.2 = m ∧ RF r1.2.2 r2.2.1 := by
  unfold zf_X7_brave zf_X8_brave
  rw [win7, win8 (a := 0) (b := 99) (by decide) (by decide), Option.bind_some, Option.bind_some]
  cases h1 : win x1 0 99
  · rw [r7_2, r8_2]
    exact ⟨_, _, rfl, rfl, rfl, rfl, rf_2 hf⟩
  rw [if_pos rfl, if_pos rfl, becomeT, Option.bind_some]
  have hw := win_iff.mp h1
  rw [show (0 : Int32).toInt = 0 from rfl, show (99 : Int32).toInt = 99 from rfl] at hw
  have hR : RNG (upd m 33 x1) := MSt_RNG hr (t := (x1, (t5 m).2)) ⟨hw, (RNG_TR hr).2⟩ (MS33 (MSt_self m) x1)
  have e32 : upd m 33 x1 32 = m 32 := upd_n (by decide)
  obtain ⟨c, -, hc8, ec⟩ := hr.1
  obtain ⟨y, k1, k2⟩ := staying_loop (RC_33 (RC_bk tr hc) x1) hR hc8 (e32.trans ec) c FU 0 0 (by omega) (by show c < 2000; omega)
  have k1' : zf_X2_bitsRemaining st (x1, (bk tr te).2.1, (bk tr te).2.2.1, (bk tr te).2.2.2.1, (bk tr te).2.2.2.2.1, (bk tr te).2.2.2.2.2.1, (bk tr te).2.2.2.2.2.2) = some y := k1
  have k2' : zf_X8_staying (upd m 33 x1) = some y := k2
  rw [k1', k2', upd_upd, upd_self]
  exact ⟨_, _, rfl, rfl, rfl, rfl, hf⟩
theorem pl_brave : PL_brave := by
  intro σ μ x1 N hN hrel
  obtain ⟨hc, hk, hf, hs, ht, ha, hwd⟩ := hrel
  obtain ⟨r1, r2, h1, h2, h3, h4, h5⟩ := q_brave (tr := σ.2.1) hc.1 hc.2.1 hf x1
  exact ⟨r1, r2, h1, h2, h3, eqc h4 hc, hk, h5, eqs h4 hs, ht, ha, upE h4 hwd⟩
theorem rage7 (hc : RC te st m) (hr : RNG m) {o : Int32} (hO : ORD m o) (x : Int32) (tr : TTe) : ∃ tr', zf_X7_rageAfter x o te tr st = some ((sHr m o (x, (t5 m).2)).1, tr') := by
  obtain ⟨f', p1, -, -⟩ := pass7 (RC_SM hc) (RNG_KR hr) hO (x, (t5 m).2) tr.2.2.2.2.2.1 tr.2.2.2.2.2.2
  have p1' : zf_X5_pass o (x, (te5 (t5 m) tr.2.2.2.2.2.1 tr.2.2.2.2.2.2).2.1, (te5 (t5 m) tr.2.2.2.2.2.1 tr.2.2.2.2.2.2).2.2.1, (te5 (t5 m) tr.2.2.2.2.2.1 tr.2.2.2.2.2.2).2.2.2.1, (te5 (t5 m) tr.2.2.2.2.2.1 tr.2.2.2.2.2.2).2.2.2.2.1, (te5 (t5 m) tr.2.2.2.2.2.1 tr.2.2.2.2.2.2).2.2.2.2.2.1, (te5 (t5 m) tr.2.2.2.2.2.1 tr.2.2.2.2.2.2).2.2.2.2.2.2) st = some (te5 (sHr m o (x, (t5 m).2)) (sHm m o (x, (t5 m).2)) f') := p1
  unfold zf_X7_rageAfter
  rw [becomeM hc, Option.bind_some, p1', Option.bind_some]
  exact ⟨_, rfl⟩
theorem le100 {i : Nat} (h : i ≤ 99) : ¬ (100 : Int32) ≤ nI i := nle (a := 100) (by omega) (by decide)
theorem better_loop (hc : RC te st m) (hr : RNG m) {a b : Int32} (hA : ORD m a) (hB : ORD m b) : ∀ (r f i : Nat) (v : Int32) (tr : TTe) (mi : Nat → Int32) (fl : Bool), i + r = 100 → r < f → ∃ v' tr' mi' fl', zf_X7_better_30 te st f a b v (nI i) tr rf = some (v', tr', rf) ∧ zf_X8_better_30 f a b v (nI i) rfd m mi fl = some (v', rfd, m, mi', fl')
  | _, 0, _, _, _, _, _, _, h => absurd h (Nat.not_lt_zero _)
  | 0, f + 1, i, v, tr, mi, fl, h0, _ => by
    have e : i = 100 := by omega
    subst e
    unfold zf_X7_better_30 zf_X8_better_30
    rw [if_pos (by decide), if_pos (by decide)]
    exact ⟨_, _, _, _, rfl, rfl⟩
  | r + 1, f + 1, i, v, tr, mi, fl, h0, hf => by
    have ei := nI_t (n := i) (by omega)
    obtain ⟨t1, e1⟩ := rage7 hc hr hA (nI i) tr
    obtain ⟨t2, e2⟩ := rage7 hc hr hB (nI i) t1
    have d1 := then8 hr hA (i := 0) (by omega) (r := nI i) (by omega) (by omega) mi fl
    have d2 := then8 hr hB (i := 0) (by omega) (r := nI i) (by omega) (by omega) (kp 0 m mi) (sFl m a (nI i, (t5 m).2))
    have d1' : zf_X8_then a 0 (nI i) m mi fl = some ((sHr m a (nI i, (t5 m).2)).1, _) := d1
    have d2' : zf_X8_then b 0 (nI i) m (kp 0 m mi) (sFl m a (nI i, (t5 m).2)) = some ((sHr m b (nI i, (t5 m).2)).1, _) := d2
    unfold zf_X7_better_30 zf_X8_better_30 zf_X7_better_57 zf_X8_better_62
    rw [if_neg (lt99 (by omega)), if_neg (le100 (by omega))]
    simp only [e1, e2, d1', d2', Option.bind_some]
    rw [nI_1]
    generalize (sHr m a (nI i, (t5 m).2)).1 = A
    generalize (sHr m b (nI i, (t5 m).2)).1 = B
    by_cases y : B ≤ A
    · rw [if_pos y, if_pos y, show v + bI false = v from Int32.add_zero v]
      exact better_loop hc hr hA hB r f (i + 1) _ _ _ _ (by omega) (by omega)
    · rw [if_neg y, if_neg y]
      exact better_loop hc hr hA hB r f (i + 1) _ _ _ _ (by omega) (by omega)
theorem q_better {tr : TTe} {fl : Bool} (hc : RC te st m) (hr : RNG m) (hf : RF rf rfd) (x1 x2 : Int32) : ∃ r1 r2, zf_X7_better x1 x2 te tr st rf = some r1 ∧ zf_X8_better x1 x2 rfd m mi fl = some r2 ∧ r1.1 = r2.1 ∧ r2.2.2.1 = m ∧ RF r1.2.2 r2.2.1 := by
  have hno : ∃ r1 r2, zf_X7_better_18 te st tr rf = some r1 ∧ zf_X8_better_18 rfd m mi fl = some r2 ∧ r1.1 = r2.1 ∧ r2.2.2.1 = m ∧ RF r1.2.2 r2.2.1 := by
    unfold zf_X7_better_18 zf_X8_better_18
    rw [r7_2, r8_2]
    exact ⟨_, _, rfl, rfl, rfl, rfl, rf_2 hf⟩
  unfold zf_X7_better zf_X8_better
  rw [order7 _ (RC_SM hc).1, order8 _ hr.1, order7 _ (RC_SM hc).1, order8 _ hr.1, Option.bind_some, Option.bind_some, Option.bind_some, Option.bind_some]
  cases h1 : isO (m 32) x1.toInt64
  · exact hno
  cases h2 : isO (m 32) x2.toInt64
  · exact hno
  rw [if_pos rfl, if_pos rfl, if_pos rfl, if_pos rfl]
  obtain ⟨v', tr', mi', fl', k1, k2⟩ := better_loop (rf := rf) (rfd := rfd) hc hr (isO_32 hr.1 h1) (isO_32 hr.1 h2) 100 FU 0 0 tr mi fl rfl (by decide)
  exact ⟨_, _, k1, k2, rfl, rfl, hf⟩
theorem pl_better : PL_better := by
  intro σ μ x1 x2 N hN hrel
  obtain ⟨hc, hk, hf, hs, ht, ha, hwd⟩ := hrel
  obtain ⟨r1, r2, h1, h2, h3, h4, h5⟩ := q_better (tr := σ.2.1) (mi := μ.2.2.2.1) (fl := μ.2.2.2.2.2.2.2.2.2.2.2.1) hc.1 hc.2.1 hf x1 x2
  exact ⟨r1, r2, h1, h2, h3, eqc h4 hc, hk, h5, eqs h4 hs, ht, ha, upE h4 hwd⟩
theorem still_loop (hc : RC te st m) (hr : RNG m) {a : Int32} (hA : ORD m a) : ∀ (r f i : Nat) (tr : TTe) (mi : Nat → Int32) (fl : Bool), i + r = 100 → r < f → ∃ v' tr' mi' fl', zf_X7_still_18 te st f a (nI i) tr rf = some (v', tr', rf) ∧ zf_X8_still_18 f a (nI i) rfd m mi fl = some (v', rfd, m, mi', fl')
  | _, 0, _, _, _, _, _, h => absurd h (Nat.not_lt_zero _)
  | 0, f + 1, i, tr, mi, fl, h0, _ => by
    have e : i = 100 := by omega
    subst e
    unfold zf_X7_still_18 zf_X8_still_18
    rw [if_pos (by decide), if_pos (by decide)]
    exact ⟨_, _, _, _, rfl, rfl⟩
  | r + 1, f + 1, i, tr, mi, fl, h0, hf => by
    have ei := nI_t (n := i) (by omega)
    obtain ⟨t1, e1⟩ := rage7 hc hr hA (nI i) tr
    have d1 := then8 hr hA (i := 0) (by omega) (r := nI i) (by omega) (by omega) mi fl
    have d1' : zf_X8_then a 0 (nI i) m mi fl = some ((sHr m a (nI i, (t5 m).2)).1, _) := d1
    unfold zf_X7_still_18 zf_X8_still_18
    rw [if_neg (lt99 (by omega)), if_neg (le100 (by omega))]
    simp only [e1, d1', Option.bind_some]
    rw [nI_1]
    by_cases y : (sHr m a (nI i, (t5 m).2)).1 = nI i
    · rw [if_pos y, if_pos y]
      exact ⟨_, _, _, _, rfl, rfl⟩
    · rw [if_neg y, if_neg y]
      exact still_loop hc hr hA r f (i + 1) _ _ _ (by omega) (by omega)
theorem q_still {tr : TTe} {fl : Bool} (hc : RC te st m) (hr : RNG m) (hf : RF rf rfd) (x1 : Int32) : ∃ r1 r2, zf_X7_still x1 te tr st rf = some r1 ∧ zf_X8_still x1 rfd m mi fl = some r2 ∧ r1.1 = r2.1 ∧ r2.2.2.1 = m ∧ RF r1.2.2 r2.2.1 := by
  unfold zf_X7_still zf_X8_still
  rw [order7 _ (RC_SM hc).1, order8 _ hr.1, Option.bind_some, Option.bind_some]
  cases h1 : isO (m 32) x1.toInt64
  · rw [r7_2, r8_2]
    exact ⟨_, _, rfl, rfl, rfl, rfl, rf_2 hf⟩
  rw [if_pos rfl, if_pos rfl]
  obtain ⟨v', tr', mi', fl', k1, k2⟩ := still_loop (rf := rf) (rfd := rfd) hc hr (isO_32 hr.1 h1) 100 FU 0 tr mi fl rfl (by decide)
  exact ⟨_, _, k1, k2, rfl, rfl, hf⟩
theorem pl_still : PL_still := by
  intro σ μ x1 N hN hrel
  obtain ⟨hc, hk, hf, hs, ht, ha, hwd⟩ := hrel
  obtain ⟨r1, r2, h1, h2, h3, h4, h5⟩ := q_still (tr := σ.2.1) (mi := μ.2.2.2.1) (fl := μ.2.2.2.2.2.2.2.2.2.2.2.1) hc.1 hc.2.1 hf x1
  exact ⟨r1, r2, h1, h2, h3, eqc h4 hc, hk, h5, eqs h4 hs, ht, ha, upE h4 hwd⟩

theorem sub_le0 {a b : Int32} {A : Nat} (hA : A < 1000000) (ha : bnd a 0 A) (hb : bnd b 0 A) : a - b ≤ 0 ↔ a ≤ b := by
  obtain ⟨x, -, hx, rfl⟩ := ha
  obtain ⟨y, -, hy, rfl⟩ := hb
  rw [i_le, i_le, i_sub (by rw [nI_t (by omega), nI_t (by omega)]; omega) (by rw [nI_t (by omega), nI_t (by omega)]; omega), nI_t (by omega), nI_t (by omega), show (0 : Int32).toInt = 0 from rfl]
  omega
theorem neg_le0 {a b : Int32} {A : Nat} (hA : A < 1000000) (ha : bnd a 0 A) (hb : bnd b 0 A) : -(a - b) ≤ 0 ↔ b ≤ a := by
  have e : -(a - b) = b - a := Int32.neg_sub
  rw [e]
  exact sub_le0 hA hb ha
/-- does keeper x stand out over keeper y -/
def sto (m : Nat → Int32) (q x y : Nat) : Bool := if q = 0 then !decide (m (4 * x + 2) ≤ m (4 * y + 2)) else if q = 1 then !decide (m (4 * y + 2) ≤ m (4 * x + 2)) else !decide (m (4 * x + 3) ≤ m (4 * y + 3))
theorem sto7 (hc : RC te st m) (hn : bnd (m 32) 0 8) {q x y : Nat} (hq : q ≤ 2) (hx : x < 8) (hx2 : nI x < m 32) (hy : y < 8) (hy2 : nI y < m 32) : zf_X7_standsOut (nI x) (nI y) (nI q) st = some (sto m q x y) := by
  have hS := RC_SM hc
  unfold zf_X7_standsOut
  rw [nerve7 hS hn hx hx2, nerve7 hS hn hy hy2, fled7 hc hn hx hx2, fled7 hc hn hy hy2]
  simp only [Option.bind_some, if_nd]
  have hq3 : q = 0 ∨ q = 1 ∨ q = 2 := by omega
  rcases hq3 with rfl | rfl | rfl <;> rfl
theorem of55 (hr : RNG m) {F : Nat} (hF : FBk F m) (hF2 : F < 1000000) {q x y : Nat} (hq : q ≤ 2) (hx : x < 8) (hy : y < 8) (k : Int32 → Int32 → Int32 → (Nat → Int32) → Option (Int32 × (Nat → Int32))) : (if nI q = 2 then zf_X8_of_55 m k (nI q) (nI y) (nI x) 3 rfd else zf_X8_of_55 m k (nI q) (nI y) (nI x) 2 rfd) = (if sto m q x y = true then k (nI q) (nI x) (nI (x + 1)) rfd else k (nI q) (nI y) (nI (x + 1)) rfd) := by
  have a2 : (4 : Int32) * nI x + 2 = nI (4 * x + 2) := e4a x 2
  have a3 : (4 : Int32) * nI x + 3 = nI (4 * x + 3) := e4a x 3
  have b2 : (4 : Int32) * nI y + 2 = nI (4 * y + 2) := e4a y 2
  have b3 : (4 : Int32) * nI y + 3 = nI (4 * y + 3) := e4a y 3
  have ix1 := ix_nI (j := 4 * x + 2) (n := 39) (by omega) (by decide)
  have ix2 := ix_nI (j := 4 * y + 2) (n := 39) (by omega) (by decide)
  have ix3 := ix_nI (j := 4 * x + 3) (n := 39) (by omega) (by decide)
  have ix4 := ix_nI (j := 4 * y + 3) (n := 39) (by omega) (by decide)
  unfold zf_X8_of_55 zf_X8_of_95 zf_X8_of_103
  rw [a2, a3, b2, b3, if_pos ix1, if_pos ix2, if_pos ix3, if_pos ix4, cl_nI (by omega), cl_nI (by omega), cl_nI (by omega), cl_nI (by omega), nI_1]
  have hq3 : q = 0 ∨ q = 1 ∨ q = 2 := by omega
  have n1 := (hr.2.2.2.2.2.2 x hx).2.2
  have n2 := (hr.2.2.2.2.2.2 y hy).2.2
  rcases hq3 with rfl | rfl | rfl
  · rw [if_neg (by decide), if_neg (by decide), show sto m 0 x y = !decide (m (4 * x + 2) ≤ m (4 * y + 2)) from rfl]
    by_cases h : m (4 * x + 2) ≤ m (4 * y + 2)
    · rw [if_pos ((sub_le0 (by decide) n1 n2).mpr h), decide_eq_true h]; rfl
    · rw [if_neg (fun z => h ((sub_le0 (by decide) n1 n2).mp z)), decide_eq_false h]; rfl
  · rw [if_neg (by decide), if_pos (by decide), show sto m 1 x y = !decide (m (4 * y + 2) ≤ m (4 * x + 2)) from rfl]
    by_cases h : m (4 * y + 2) ≤ m (4 * x + 2)
    · rw [if_pos ((neg_le0 (by decide) n1 n2).mpr h), decide_eq_true h]; rfl
    · rw [if_neg (fun z => h ((neg_le0 (by decide) n1 n2).mp z)), decide_eq_false h]; rfl
  · rw [if_pos (by decide), if_neg (by decide), show sto m 2 x y = !decide (m (4 * x + 3) ≤ m (4 * y + 3)) from rfl]
    by_cases h : m (4 * x + 3) ≤ m (4 * y + 3)
    · rw [if_pos ((sub_le0 hF2 (hF x hx) (hF y hy)).mpr h), decide_eq_true h]; rfl
    · rw [if_neg (fun z => h ((sub_le0 hF2 (hF x hx) (hF y hy)).mp z)), decide_eq_false h]; rfl
theorem of_loop (hc : RC te st m) (hr : RNG m) {F : Nat} (hF : FBk F m) (hF2 : F < 1000000) {q c : Nat} (hq : q ≤ 2) (hc8 : c ≤ 8) (ec : m 32 = nI c) : ∀ (r f i y : Nat), i + r = c → r < f → y < c → ∃ v, zf_X7_of_37 st f (nI q) (nI y) (nI i) rf = some (v, rf) ∧ zf_X8_of_37 m f (nI q) (nI y) (nI i) rfd = some (v, rfd)
  | _, 0, _, _, _, h, _ => absurd h (Nat.not_lt_zero _)
  | 0, f + 1, i, y, h0, _, hy => by
    have e : i = c := by omega
    subst e
    unfold zf_X7_of_37 zf_X8_of_37 zf_X8_many
    rw [(RC_SM hc).1, ec, Option.bind_some, if_pos (i_le.mpr (Int.le_refl _)), if_pos (i_le.mpr (Int.le_refl _))]
    exact ⟨_, rfl, rfl⟩
  | r + 1, f + 1, i, y, h0, hf, hy => by
    have hk : nI i < m 32 := by rw [ec]; exact (nIlt (by omega) (by omega)).mpr (by omega)
    have hk2 : nI y < m 32 := by rw [ec]; exact (nIlt (by omega) (by omega)).mpr (by omega)
    have hn : ¬ m 32 ≤ nI i := fun z => by have := i_lt.mp hk; have := i_le.mp z; omega
    unfold zf_X7_of_37 zf_X8_of_37 zf_X8_many zf_X7_of_60
    rw [(RC_SM hc).1, Option.bind_some, if_neg hn, if_neg hn, sto7 hc hr.1 hq (by omega) hk (by omega) hk2, Option.bind_some, of55 hr hF hF2 hq (by omega) (by omega), nI_1]
    cases sto m q i y
    · exact of_loop hc hr hF hF2 hq hc8 ec r f (i + 1) y (by omega) (by omega) hy
    · exact of_loop hc hr hF hF2 hq hc8 ec r f (i + 1) i (by omega) (by omega) (by omega)
theorem q_of (hc : RC te st m) (hr : RNG m) {F : Nat} (hF : FBk F m) (hF2 : F < 1000000) (hf : RF rf rfd) (x1 : Int32) : ∃ r1 r2, zf_X7_of x1 st rf = some r1 ∧ zf_X8_of x1 rfd m = some r2 ∧ r1.1 = r2.1 ∧ RF r1.2 r2.2 := by
  unfold zf_X7_of zf_X8_of zf_X8_many
  rw [win7, win8 (a := 0) (b := 2) (by decide) (by decide), Option.bind_some, Option.bind_some, Option.bind_some, (RC_SM hc).1]
  cases h1 : win x1 0 2
  · rw [r7_2, r8_2]
    exact ⟨_, _, rfl, rfl, rfl, rf_2 hf⟩
  rw [if_pos rfl, if_pos rfl]
  obtain ⟨q, hq, rfl⟩ := win_nI (B := 2) (by decide) h1
  obtain ⟨c, -, hc8, ec⟩ := hr.1
  by_cases z : c = 0
  · subst z
    rw [ec, if_neg (by decide), if_pos (by decide), r7_5, r8_5]
    exact ⟨_, _, rfl, rfl, rfl, rf_5 hf⟩
  · rw [if_pos (show 0 < m 32 from by rw [ec]; exact (nIlt (a := 0) (by omega) (by omega)).mpr (by omega)), if_neg (show ¬ m 32 = 0 from fun y => by rw [ec] at y; have := (nIeq (b := 0) (by omega) (by omega)).mp y; omega)]
    obtain ⟨v, k1, k2⟩ := of_loop (rf := rf) (rfd := rfd) hc hr hF hF2 hq hc8 ec (c - 1) FU 1 0 (by omega) (by show c - 1 < 2000; omega) (by omega)
    exact ⟨_, _, k1, k2, rfl, hf⟩
theorem pl_of : PL_of := by
  intro σ μ x1 N hN hrel
  obtain ⟨hc, hk, hf, hs, ht, ha, hwd⟩ := hrel
  obtain ⟨r1, r2, h1, h2, h3, h4⟩ := q_of hc.1 hc.2.1 (F := 60 * N) hwd.2.1 (by omega) hf x1
  exact ⟨r1, r2, h1, h2, h3, hc, hk, h4, hs, ht, ha, up hwd⟩
