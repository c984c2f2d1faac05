/-! pure rows: one hour tried, two orders, until -/
variable {te : TTe} {st : TSt} {m : Nat → Int32} {n : Int32} {sh : TSh} {rf rfd ho sz mi : Nat → Int32} {el : Nat → Int64}
def thV (m : Nat → Int32) (o : Int32) (t : T5) (i : Nat) : Int32 := if i = 3 then bI (sHm m o t) else if i = 0 then (sHr m o t).1 else if i = 1 then (sHr m o t).2.1 else (sHr m o t).2.2.1
theorem upd_self (m : Nat → Int32) (k : Nat) : upd m k (m k) = m := by
  funext j
  by_cases e : j = k
  · subst e; rw [upd_s]
  · rw [upd_n e]
theorem upd_upd (m : Nat → Int32) (k : Nat) (x y : Int32) : upd (upd m k x) k y = upd m k y := by
  funext j
  by_cases e : j = k
  · subst e; rw [upd_s, upd_s]
  · rw [upd_n e, upd_n e, upd_n e]
/-- an order tried with the rage r -/
theorem then8 (hr : RNG m) {o : Int32} (hO : ORD m o) {i : Nat} (hi : i ≤ 3) {r : Int32} (h0 : 0 ≤ r.toInt) (h9 : r.toInt ≤ 99) (mi : Nat → Int32) (fl : Bool) : zf_X8_then o (nI i) r m mi fl = some (thV m o (r, (t5 m).2) i, m, kp 0 m mi, sFl m o (r, (t5 m).2)) := by
  have hM : MSt m (r, (t5 m).2) (upd m 33 r) := MS33 (MSt_self m) r
  have hT : TR (r, (t5 m).2) := ⟨⟨h0, h9⟩, (RNG_TR hr).2⟩
  obtain ⟨μ', s1, s2, -⟩ := step8 hM hT hO fl
  unfold zf_X8_then zf_X8_then_39
  rw [keep0, Option.bind_some, s1, Option.bind_some]
  dsimp only
  rw [lay0 s2, Option.bind_some, Option.bind_some]
  have hi : i = 0 ∨ i = 1 ∨ i = 2 ∨ i = 3 := by omega
  rcases hi with rfl | rfl | rfl | rfl
  · have e : μ' 33 = (sHr m o (r, (t5 m).2)).1 := s2.2.2.1
    show some (μ' 33, m, kp 0 m mi, _) = _
    rw [e]; rfl
  · have e : μ' 34 = (sHr m o (r, (t5 m).2)).2.1 := s2.2.2.2.1
    show some (μ' 34, m, kp 0 m mi, _) = _
    rw [e]; rfl
  · have e : μ' 35 = (sHr m o (r, (t5 m).2)).2.2.1 := s2.2.2.2.2.1
    show some (μ' 35, m, kp 0 m mi, _) = _
    rw [e]; rfl
  · rfl
theorem then8n (hr : RNG m) {o : Int32} (hO : ORD m o) {i : Nat} (hi : i ≤ 3) (mi : Nat → Int32) (fl : Bool) : zf_X8_then o (nI i) (m 33) m mi fl = some (thV m o (t5 m) i, m, kp 0 m mi, sFl m o (t5 m)) := then8 hr hO hi (RNG_TR hr).1.1 (RNG_TR hr).1.2 mi fl
theorem try7 (hc : RC te st m) (hr : RNG m) {o : Int32} (hO : ORD m o) (tr : TTe) : ∃ f', zf_X7_tryHour o te tr st = some (te5 (sHr m o (t5 m)) (sHm m o (t5 m)) f') := by
  obtain ⟨f', p1, -, -⟩ := pass7 (RC_SM hc) (RNG_KR hr) hO (t5 m) tr.2.2.2.2.2.1 tr.2.2.2.2.2.2
  refine ⟨f', ?_⟩
  unfold zf_X7_tryHour
  rw [becomeM hc, Option.bind_some, p1]
  rfl
theorem q_after {tr : TTe} {fl : Bool} (hc : RC te st m) (hr : RNG m) (hf : RF rf rfd) (x1 x2 : Int32) : ∃ r1 r2, zf_X7_after x1 x2 te tr st rf = some r1 ∧ zf_X8_after x1 x2 rfd m mi fl = some r2 ∧ r1.1 = r2.1 ∧ r2.2.2.1 = m ∧ RF r1.2.2 r2.2.1 := by
  have hno : ∃ r1 r2, zf_X7_after_18 te st tr rf = some r1 ∧ zf_X8_after_37 rfd m mi fl = some r2 ∧ r1.1 = r2.1 ∧ r2.2.2.1 = m ∧ RF r1.2.2 r2.2.1 := by
    unfold zf_X7_after_18 zf_X8_after_37
    rw [r7_2, r8_2]
    exact ⟨_, _, rfl, rfl, rfl, rfl, rf_2 hf⟩
  unfold zf_X7_after zf_X8_after
  rw [order7 _ (RC_SM hc).1, order8 _ hr.1, win7, win8 (a := 0) (b := 3) (by decide) (by decide), Option.bind_some, Option.bind_some, Option.bind_some, Option.bind_some]
  cases h1 : isO (m 32) x1.toInt64
  · exact hno
  cases h2 : win x2 0 3
  · exact hno
  rw [if_pos rfl, if_pos rfl, if_pos rfl, if_pos rfl]
  have hO := isO_32 hr.1 h1
  obtain ⟨i, hi, rfl⟩ := win_nI (B := 3) (by decide) h2
  obtain ⟨f', e1⟩ := try7 hc hr hO tr
  rw [e1, then8n hr hO hi, Option.bind_some, Option.bind_some]
  have hi : i = 0 ∨ i = 1 ∨ i = 2 ∨ i = 3 := by omega
  rcases hi with rfl | rfl | rfl | rfl
  · exact ⟨_, _, rfl, rfl, rfl, rfl, hf⟩
  · exact ⟨_, _, rfl, rfl, rfl, rfl, hf⟩
  · exact ⟨_, _, rfl, rfl, rfl, rfl, hf⟩
  · rw [if_pos (by decide)]
    show ∃ r1 r2, (if sHm m x1 (t5 m) = true then _ else _) = some r1 ∧ _
    have : thV m x1 (t5 m) 3 = bI (sHm m x1 (t5 m)) := rfl
    rw [this]
    cases sHm m x1 (t5 m)
    · exact ⟨_, _, rfl, rfl, rfl, rfl, hf⟩
    · exact ⟨_, _, rfl, rfl, rfl, rfl, hf⟩
theorem pl_after : PL_after := by
  intro σ μ x1 x2 N hN hrel
  obtain ⟨hc, hk, hf, hs, ht, ha, hwd⟩ := hrel
  obtain ⟨r1, r2, h1, h2, h3, h4, h5⟩ := q_after (tr := σ.2.1) (mi := μ.2.2.2.1) (fl := μ.2.2.2.2.2.2.2.2.2.2.2.1) hc.1 hc.2.1 hf x1 x2
  exact ⟨r1, r2, h1, h2, h3, eqc h4 hc, hk, h5, eqs h4 hs, ht, ha, upE h4 hwd⟩
theorem both8 (hr : RNG m) {a b : Int32} (ha : ORD m a) (hb : ORD m b) (mi : Nat → Int32) (fl : Bool) (ros : Nat → Int32) (fls ff : Int32) : ∃ fl' ros' fls' ff', zf_X8_both a b m mi fl ros fls ff = some ((sHr m b (sHr m a (t5 m))).1, m, kp 0 m mi, fl', ros', fls', ff') := by
  have h0 : (upd (upd ros 0 a) 1 b) 0 = a := by rw [upd_n (by decide), upd_s]
  have h1 : (upd (upd ros 0 a) 1 b) 1 = b := upd_s
  obtain ⟨μ', fl', e2, e3⟩ := go8 (RNG_TR hr) (upd (upd ros 0 a) 1 b) (c := 2) (by decide) (fun i hi => by
    have hi : i = 0 ∨ i = 1 := by omega
    rcases hi with rfl | rfl
    · rw [h0]; exact ha
    · rw [h1]; exact hb) fl fls ff
  unfold zf_X8_both zf_X8_rageBehind
  have e2' : zf_X8_go 2 m fl (upd (upd ros 0 a) 1 b) fls ff = _ := e2
  rw [keep0, Option.bind_some, e2', Option.bind_some]
  dsimp only
  rw [lay0 e3, Option.bind_some, Option.bind_some]
  have ew : (wT m (upd (upd ros 0 a) 1 b) (t5 m) 2) = sHr m b (sHr m a (t5 m)) := by
    show sHr m ((upd (upd ros 0 a) 1 b) 1) (sHr m ((upd (upd ros 0 a) 1 b) 0) (t5 m)) = _
    rw [h0, h1]
  have e33 : μ' 33 = (sHr m b (sHr m a (t5 m))).1 := by rw [e3.2.2.1, ew]
  rw [e33]
  exact ⟨_, _, _, _, rfl⟩
theorem q_first {tr ri : TTe} {fl : Bool} {ros : Nat → Int32} {fls ff : Int32} (hc : RC te st m) (hr : RNG m) (hf : RF rf rfd) (x1 x2 : Int32) : ∃ r1 r2, zf_X7_first x1 x2 te tr ri st rf = some r1 ∧ zf_X8_first x1 x2 rfd m mi fl ros fls ff = some r2 ∧ r1.1 = r2.1 ∧ r2.2.2.1 = m ∧ RF r1.2.2.2 r2.2.1 := by
  have hno : ∃ r1 r2, zf_X7_first_18 te st tr ri rf = some r1 ∧ zf_X8_first_18 rfd m mi fl ros fls ff = some r2 ∧ r1.1 = r2.1 ∧ r2.2.2.1 = m ∧ RF r1.2.2.2 r2.2.1 := by
    unfold zf_X7_first_18 zf_X8_first_18
    rw [r7_2, r8_2]
    exact ⟨_, _, rfl, rfl, rfl, rfl, rf_2 hf⟩
  unfold zf_X7_first zf_X8_first
  rw [order7 _ (RC_SM hc).1, order8 _ hr.1, order7 _ (RC_SM hc).1, order8 _ hr.1, Option.bind_some, Option.bind_some, Option.bind_some, Option.bind_some]
  cases h1 : isO (m 32) x1.toInt64
  · exact hno
  cases h2 : isO (m 32) x2.toInt64
  · exact hno
  rw [if_pos rfl, if_pos rfl, if_pos rfl, if_pos rfl]
  have hA := isO_32 hr.1 h1
  have hB := isO_32 hr.1 h2
  have hS := RC_SM hc
  have hK := RNG_KR hr
  obtain ⟨f1, p1, -, -⟩ := pass7 hS hK hA (t5 m) tr.2.2.2.2.2.1 tr.2.2.2.2.2.2
  obtain ⟨f2, p2, -, -⟩ := pass7 hS hK hB (sHr m x1 (t5 m)) (sHm m x1 (t5 m)) f1
  obtain ⟨f3, p3, -, -⟩ := pass7 hS hK hB (t5 m) ri.2.2.2.2.2.1 ri.2.2.2.2.2.2
  obtain ⟨f4, p4, -, -⟩ := pass7 hS hK hA (sHr m x2 (t5 m)) (sHm m x2 (t5 m)) f3
  obtain ⟨fl1, ros1, fls1, ff1, b1⟩ := both8 hr hA hB mi fl ros fls ff
  obtain ⟨fl2, ros2, fls2, ff2, b2⟩ := both8 hr hB hA (kp 0 m mi) fl1 ros1 fls1 ff1
  simp only [becomeM hc, Option.bind_some, p1, p2, p3, p4, b1, b2]
  show ∃ r1 r2, (if (sHr m x2 (sHr m x1 (t5 m))).1 = (sHr m x1 (sHr m x2 (t5 m))).1 then _ else if (sHr m x1 (sHr m x2 (t5 m))).1 ≤ (sHr m x2 (sHr m x1 (t5 m))).1 then _ else _) = some r1 ∧ _
  generalize (sHr m x2 (sHr m x1 (t5 m))).1 = A
  generalize (sHr m x1 (sHr m x2 (t5 m))).1 = B
  by_cases e : A = B
  · subst e
    rw [if_pos rfl, if_pos (i_le.mpr (Int.le_refl _)), if_pos (i_le.mpr (Int.le_refl _))]
    exact ⟨_, _, rfl, rfl, rfl, rfl, hf⟩
  · rw [if_neg e]
    by_cases l : B ≤ A
    · rw [if_pos l, if_pos l, if_neg (fun y => e (i_eq.mpr (by have := i_le.mp y; have := i_le.mp l; omega)))]
      exact ⟨_, _, rfl, rfl, rfl, rfl, hf⟩
    · rw [if_neg l, if_neg l]
      exact ⟨_, _, rfl, rfl, rfl, rfl, hf⟩
theorem pl_first : PL_first := by
  intro σ μ x1 x2 N hN hrel
  obtain ⟨hc, hk, hf, hs, ht, ha, hwd⟩ := hrel
  obtain ⟨r1, r2, h1, h2, h3, h4, h5⟩ := q_first (tr := σ.2.1) (ri := σ.2.2.1) (mi := μ.2.2.2.1) (fl := μ.2.2.2.2.2.2.2.2.2.2.2.1) (ros := μ.2.2.2.2.2.2.2.2.2.2.2.2.2.2.2.2.2.1) (fls := μ.2.2.2.2.2.2.2.2.2.2.2.2.2.2.2.2.2.2.1) (ff := μ.2.2.2.2.2.2.2.2.2.2.2.2.2.2.2.2.2.2.2.1) hc.1 hc.2.1 hf x1 x2
  exact ⟨r1, r2, h1, h2, h3, eqc h4 hc, hk, h5, eqs h4 hs, ht, ha, upE h4 hwd⟩
/-- the hours of one order, again and again -/
def rep (m : Nat → Int32) (o : Int32) : Nat → T5 := wT m (fun _ => o) (t5 m)
theorem lt200 {i : Nat} (h : i ≤ 200) : ¬ (200 : Int32) < nI i := fun q => by have := i_lt.mp q; rw [nI_t (by omega), show (200 : Int32).toInt = 200 from rfl] at this; omega
theorem le200 {i : Nat} (h : i ≤ 200) : nI i ≤ (200 : Int32) := i_le.mpr (by rw [nI_t (by omega), show (200 : Int32).toInt = 200 from rfl]; omega)
theorem till56 {t : T5} {μ : Nat → Int32} (hM : MSt m t μ) (i : Nat) (hi : i ≤ 200) (fl : Bool) : zf_X8_till_56 (nI i) μ (kp 0 m mi) fl = some (nI i, m, kp 0 m mi, fl) := by
  unfold zf_X8_till_56
  rw [lay0 hM, Option.bind_some, if_pos (le200 hi)]
theorem till56x {t : T5} {μ : Nat → Int32} (hM : MSt m t μ) (fl : Bool) : zf_X8_till_56 (nI 201) μ (kp 0 m mi) fl = some (-1, m, kp 0 m mi, fl) := by
  unfold zf_X8_till_56
  rw [lay0 hM, Option.bind_some, if_neg (by decide)]
theorem until_loop (hc : RC te st m) (hr : RNG m) {o : Int32} (hO : ORD m o) (x : Int32) : ∀ (r f i : Nat) (b : Bool) (f0 : Int32) (μ : Nat → Int32) (fl : Bool), i + r = 201 → r < f → MSt m (rep m o i) μ → ∃ v tr' fl', zf_X7_until_39 te st f o x (nI i) (te5 (rep m o i) b f0) rf = some (v, tr', rf) ∧ zf_X8_till_8 f o 33 x false (nI i) μ (kp 0 m mi) fl = some (v, m, kp 0 m mi, fl')
  | _, 0, _, _, _, _, _, _, h, _ => absurd h (Nat.not_lt_zero _)
  | 0, f + 1, i, b, f0, μ, fl, h0, _, hM => by
    have e : i = 201 := by omega
    subst e
    unfold zf_X7_until_39 zf_X8_till_8
    rw [if_pos (by decide), if_pos (by decide), till56x hM]
    exact ⟨_, _, _, rfl, rfl⟩
  | r + 1, f + 1, i, b, f0, μ, fl, h0, hf, hM => by
    unfold zf_X7_until_39 zf_X8_till_8 zf_X8_till_44
    rw [if_neg (lt200 (by omega)), if_neg (lt200 (by omega)), if_neg Bool.false_ne_true, if_pos (show ix (33 : Int32) 39 = true by decide)]
    have e33 : μ (33 : Int32).toNatClampNeg = (rep m o i).1 := hM.2.2.1
    by_cases h : x < (rep m o i).1
    · rw [if_pos (show x < (te5 (rep m o i) b f0).1 from h), if_neg (show ¬ μ (33 : Int32).toNatClampNeg ≤ x from fun y => by rw [e33] at y; have := i_le.mp y; have := i_lt.mp h; omega)]
      obtain ⟨f', p1, -, -⟩ := pass7 (RC_SM hc) (RNG_KR hr) hO (rep m o i) b f0
      obtain ⟨μ', s1, s2, -⟩ := step8 hM (TR_w (RNG_TR hr) i) hO fl
      rw [p1, s1, Option.bind_some, Option.bind_some, nI_1]
      exact until_loop hc hr hO x r f (i + 1) _ f' μ' _ (by omega) (by omega) s2
    · rw [if_neg (show ¬ x < (te5 (rep m o i) b f0).1 from h), if_pos (show μ (33 : Int32).toNatClampNeg ≤ x from by rw [e33]; exact i_le.mpr (i_nlt h)), till56 hM i (by omega)]
      exact ⟨_, _, _, rfl, rfl⟩
theorem q_until {tr : TTe} {fl : Bool} (hc : RC te st m) (hr : RNG m) (hf : RF rf rfd) (x1 x2 : Int32) : ∃ r1 r2, zf_X7_until x1 x2 te tr st rf = some r1 ∧ zf_X8_until x1 x2 rfd m mi fl = some r2 ∧ r1.1 = r2.1 ∧ r2.2.2.1 = m ∧ RF r1.2.2 r2.2.1 := by
  have hno : ∃ r1 r2, zf_X7_until_19 te st tr rf = some r1 ∧ zf_X8_until_33 rfd m mi fl = some r2 ∧ r1.1 = r2.1 ∧ r2.2.2.1 = m ∧ RF r1.2.2 r2.2.1 := by
    unfold zf_X7_until_19 zf_X8_until_33
    rw [r7_2, r8_2]
    exact ⟨_, _, rfl, rfl, rfl, rfl, rf_2 hf⟩
  unfold zf_X7_until zf_X8_until zf_X8_till
  rw [order7 _ (RC_SM hc).1, order8 _ hr.1, win7, win8 (a := 0) (b := 99) (by decide) (by decide), Option.bind_some, Option.bind_some, Option.bind_some, Option.bind_some]
  cases h1 : isO (m 32) x1.toInt64
  · exact hno
  cases h2 : win x2 0 99
  · exact hno
  rw [if_pos rfl, if_pos rfl, if_pos rfl, if_pos rfl, becomeM hc, keep0, Option.bind_some, Option.bind_some]
  have hO := isO_32 hr.1 h1
  obtain ⟨v, tr', fl', k1, k2⟩ := until_loop (rf := rf) (mi := mi) hc hr hO x2 201 FU 0 tr.2.2.2.2.2.1 tr.2.2.2.2.2.2 m fl rfl (by decide) (MSt_self m)
  have k1' : zf_X7_until_39 te st FU x1 x2 0 (te5 (t5 m) tr.2.2.2.2.2.1 tr.2.2.2.2.2.2) rf = _ := k1
  have k2' : zf_X8_till_8 FU x1 33 x2 false 0 m (kp 0 m mi) fl = _ := k2
  rw [k1', k2']
  exact ⟨_, _, rfl, rfl, rfl, rfl, hf⟩
theorem pl_until : PL_until := by
  intro σ μ x1 x2 N hN hrel
  obtain ⟨hc, hk, hf, hs, ht, ha, hwd⟩ := hrel
  obtain ⟨r1, r2, h1, h2, h3, h4, h5⟩ := q_until (tr := σ.2.1) (mi := μ.2.2.2.1) (fl := μ.2.2.2.2.2.2.2.2.2.2.2.1) hc.1 hc.2.1 hf x1 x2
  exact ⟨r1, r2, h1, h2, h3, eqc h4 hc, hk, h5, eqs h4 hs, ht, ha, upE h4 hwd⟩
theorem grown_loop (hc : RC te st m) (hr : RNG m) {o : Int32} (hO : ORD m o) : ∀ (r f i : Nat) (b : Bool) (f0 : Int32) (μ : Nat → Int32) (fl : Bool), i + r = 201 → r < f → MSt m (rep m o i) μ → ∃ v tr' fl', zf_X7_grown_29 te st f o (nI i) (te5 (rep m o i) b f0) rf = some (v, tr', rf) ∧ zf_X8_till_8 f o 35 9 true (nI i) μ (kp 0 m mi) fl = some (v, m, kp 0 m mi, fl')
  | _, 0, _, _, _, _, _, _, h, _ => absurd h (Nat.not_lt_zero _)
  | 0, f + 1, i, b, f0, μ, fl, h0, _, hM => by
    have e : i = 201 := by omega
    subst e
    unfold zf_X7_grown_29 zf_X8_till_8
    rw [if_pos (by decide), if_pos (by decide), till56x hM]
    exact ⟨_, _, _, rfl, rfl⟩
  | r + 1, f + 1, i, b, f0, μ, fl, h0, hf, hM => by
    unfold zf_X7_grown_29 zf_X8_till_8 zf_X8_till_44
    rw [if_neg (lt200 (by omega)), if_neg (lt200 (by omega)), if_pos rfl, if_pos (show ix (35 : Int32) 39 = true by decide)]
    have hT := TR_w (m := m) (o := fun _ => o) (RNG_TR hr) i
    have e35 : μ (35 : Int32).toNatClampNeg = (rep m o i).2.2.1 := hM.2.2.2.2.1
    have h9 : (rep m o i).2.2.1.toInt ≤ 9 := hT.2.2.1.2
    by_cases h : (rep m o i).2.2.1 = 9
    · rw [if_pos (show (te5 (rep m o i) b f0).2.2.1 = 9 from h), if_pos (show (9 : Int32) ≤ μ (35 : Int32).toNatClampNeg from by rw [e35, h]; exact i_le.mpr (Int.le_refl _)), till56 hM i (by omega)]
      exact ⟨_, _, _, rfl, rfl⟩
    · rw [if_neg (show ¬ (te5 (rep m o i) b f0).2.2.1 = 9 from h), if_neg (show ¬ (9 : Int32) ≤ μ (35 : Int32).toNatClampNeg from fun y => by rw [e35] at y; have := i_le.mp y; rw [show (9 : Int32).toInt = 9 from rfl] at this; exact h (i_eq.mpr (by rw [show (9 : Int32).toInt = 9 from rfl]; omega)))]
      obtain ⟨f', p1, -, -⟩ := pass7 (RC_SM hc) (RNG_KR hr) hO (rep m o i) b f0
      obtain ⟨μ', s1, s2, -⟩ := step8 hM hT hO fl
      rw [p1, s1, Option.bind_some, Option.bind_some, nI_1]
      exact grown_loop hc hr hO r f (i + 1) _ f' μ' _ (by omega) (by omega) s2
theorem q_grown {tr : TTe} {fl : Bool} (hc : RC te st m) (hr : RNG m) (hf : RF rf rfd) (x1 : Int32) : ∃ r1 r2, zf_X7_grown x1 te tr st rf = some r1 ∧ zf_X8_grown x1 rfd m mi fl = some r2 ∧ r1.1 = r2.1 ∧ r2.2.2.1 = m ∧ RF r1.2.2 r2.2.1 := by
  unfold zf_X7_grown zf_X8_grown zf_X8_till
  rw [order7 _ (RC_SM hc).1, order8 _ hr.1, Option.bind_some, Option.bind_some]
  cases h1 : isO (m 32) x1.toInt64
  · rw [r7_2, r8_2]
    exact ⟨_, _, rfl, rfl, rfl, rfl, rf_2 hf⟩
  rw [if_pos rfl, if_pos rfl, becomeM hc, keep0, Option.bind_some, Option.bind_some]
  have hO := isO_32 hr.1 h1
  obtain ⟨v, tr', fl', k1, k2⟩ := grown_loop (rf := rf) (mi := mi) hc hr hO 201 FU 0 tr.2.2.2.2.2.1 tr.2.2.2.2.2.2 m fl rfl (by decide) (MSt_self m)
  have k1' : zf_X7_grown_29 te st FU x1 0 (te5 (t5 m) tr.2.2.2.2.2.1 tr.2.2.2.2.2.2) rf = _ := k1
  have k2' : zf_X8_till_8 FU x1 35 9 true 0 m (kp 0 m mi) fl = _ := k2
  rw [k1', k2']
  exact ⟨_, _, rfl, rfl, rfl, rfl, hf⟩
theorem pl_grown : PL_grown := by
  intro σ μ x1 N hN hrel
  obtain ⟨hc, hk, hf, hs, ht, ha, hwd⟩ := hrel
  obtain ⟨r1, r2, h1, h2, h3, h4, h5⟩ := q_grown (tr := σ.2.1) (mi := μ.2.2.2.1) (fl := μ.2.2.2.2.2.2.2.2.2.2.2.1) hc.1 hc.2.1 hf x1
  exact ⟨r1, r2, h1, h2, h3, eqc h4 hc, hk, h5, eqs h4 hs, ht, ha, upE h4 hwd⟩
theorem meet_loop (hc : RC te st m) (hr : RNG m) : ∀ (r f i : Nat) (b : Bool) (f0 : Int32) (μ : Nat → Int32) (fl : Bool), i + r = 201 → r < f → MSt m (rep m 10 i) μ → ∃ v tr' fl', zf_X7_meetings_13 te st f (nI i) (te5 (rep m 10 i) b f0) = some (v, tr') ∧ zf_X8_meetings_7 f (nI i) μ (kp 0 m mi) fl = some (v, m, kp 0 m mi, fl')
  | _, 0, _, _, _, _, _, _, h, _ => absurd h (Nat.not_lt_zero _)
  | 0, f + 1, i, b, f0, μ, fl, h0, _, hM => by
    have e : i = 201 := by omega
    subst e
    unfold zf_X7_meetings_13 zf_X8_meetings_7 zf_X8_meetings_44
    rw [if_pos (by decide), if_pos (by decide), lay0 hM, Option.bind_some, if_neg (by decide)]
    exact ⟨_, _, _, rfl, rfl⟩
  | r + 1, f + 1, i, b, f0, μ, fl, h0, hf, hM => by
    unfold zf_X7_meetings_13 zf_X8_meetings_7 zf_X8_meetings_44
    rw [if_neg (lt200 (by omega)), if_neg (lt200 (by omega))]
    have e33 : μ 33 = (rep m 10 i).1 := hM.2.2.1
    have e34 : μ 34 = (rep m 10 i).2.1 := hM.2.2.2.1
    by_cases h : (rep m 10 i).2.1 < (rep m 10 i).1
    · rw [if_pos (show (te5 (rep m 10 i) b f0).2.1 < (te5 (rep m 10 i) b f0).1 from h), if_neg (show ¬ μ 33 ≤ μ 34 from fun y => by rw [e33, e34] at y; have := i_le.mp y; have := i_lt.mp h; omega)]
      obtain ⟨f', p1, -, -⟩ := pass7 (RC_SM hc) (RNG_KR hr) (o := 10) (Or.inr (Or.inl rfl)) (rep m 10 i) b f0
      obtain ⟨μ', s1, s2, -⟩ := step8 hM (TR_w (RNG_TR hr) i) (o := 10) (Or.inr (Or.inl rfl)) fl
      rw [p1, s1, Option.bind_some, Option.bind_some, nI_1]
      exact meet_loop hc hr r f (i + 1) _ f' μ' _ (by omega) (by omega) s2
    · rw [if_neg (show ¬ (te5 (rep m 10 i) b f0).2.1 < (te5 (rep m 10 i) b f0).1 from h), if_pos (show μ 33 ≤ μ 34 from by rw [e33, e34]; exact i_le.mpr (i_nlt h)), lay0 hM, Option.bind_some, if_pos (le200 (by omega))]
      exact ⟨_, _, _, rfl, rfl⟩
theorem pl_meetings : PL_meetings := by
  intro σ μ N hN hrel
  obtain ⟨hc, hk, hf, hs, ht, ha, hwd⟩ := hrel
  obtain ⟨v, tr', fl', k1, k2⟩ := meet_loop (mi := μ.2.2.2.1) hc.1 hc.2.1 201 FU 0 σ.2.1.2.2.2.2.2.1 σ.2.1.2.2.2.2.2.2 μ.2.1 μ.2.2.2.2.2.2.2.2.2.2.2.1 rfl (by decide) (MSt_self _)
  refine ⟨(v, tr'), (v, μ.2.1, kp 0 μ.2.1 μ.2.2.2.1, fl'), ?_, ?_, rfl, hc, hk, hf, hs, ht, ha, up hwd⟩
  · unfold zf_X7_meetings
    rw [becomeM hc.1, Option.bind_some]
    exact k1
  · unfold zf_X8_meetings
    rw [keep0, Option.bind_some]
    exact k2
