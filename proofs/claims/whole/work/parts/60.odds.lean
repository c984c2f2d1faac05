/-! pure rows: odds -/
variable {te : TTe} {st : TSt} {m : Nat → Int32} {rf rfd mi : Nat → Int32}
theorem nL_mul (a b : Nat) : nL a * nL b = nL (a * b) := (Int64.ofNat_mul a b).symm
theorem nL_div {a d : Nat} (ha : a < 9223372036854775808) (hd : d < 9223372036854775808) : nL a / nL d = nL (a / d) := by
  have hq := Nat.div_le_self a d
  have e : (a : Int).tdiv (d : Int) = ((a / d : Nat) : Int) := rfl
  obtain ⟨q, eq⟩ : ∃ q, q = a / d := ⟨_, rfl⟩
  rw [← eq] at e hq ⊢
  apply l_eq.mpr
  rw [Int64.toInt_div, nL_t ha, nL_t hd, nL_t (by omega), e]
  clear e eq
  exact Int.bmod_eq_of_le (by omega) (by omega)
theorem nL_I {n : Nat} (h : n < 2147483648) : (nL n).toInt32 = nI n := by
  apply i_eq.mpr
  rw [Int64.toInt_toInt32, nL_t (by omega), nI_t h, Int.bmod_eq_of_le (by omega) (by omega)]
theorem p_le {c i : Nat} (hc : c ≤ 8) (hi : i ≤ 3) : c ^ i ≤ 512 :=
  Nat.le_trans (Nat.pow_le_pow_left hc i) (Nat.pow_le_pow_right (n := 8) (by decide) hi)
theorem odds7_loop (hc : RC te st m) {c h : Nat} (ec : m 32 = nI c) (x2 : Int32) (hh : h ≤ 3) (wa : TWa) (pl rf : Nat → Int32) : ∀ (r f i : Nat), i + r = h → r < f → zf_X7_odds_47 te st f (nI h) x2 (nI (c ^ i)) (nI i) wa pl rf = (if x2 = 0 then (Option.bind (zf_X7_harmOdds (nI h) (nI (c ^ h)) te st wa pl) (fun u10 => some (u10.1, u10.2.1, u10.2.2, rf))) else (Option.bind (zf_X7_meanRage (nI h) (nI (c ^ h)) te st wa pl) (fun u9 => some (u9.1, u9.2.1, u9.2.2, rf))))
  | _, 0, _, _, h => absurd h (Nat.not_lt_zero _)
  | 0, f + 1, i, hi, _ => by
    have e : i = h := by omega
    subst e
    unfold zf_X7_odds_47
    rw [if_pos (i_le.mpr (Int.le_refl _))]
  | r + 1, f + 1, i, hi, hf => by
    rw [← odds7_loop hc ec x2 hh wa pl rf r f (i + 1) (by omega) (by omega)]
    conv => lhs; unfold zf_X7_odds_47
    rw [if_neg (show ¬ nI h ≤ nI i from nle (by omega) (by omega)), (RC_SM hc).1, ec, pk_mul, nI_1, Nat.pow_succ]
theorem odds8_loop {c h : Nat} (hc8 : c ≤ 8) (ec : m 32 = nI c) (x2 : Int32) (hh : h ≤ 3) (rfd mi : Nat → Int32) (fl : Bool) (H R : Int64) : ∀ (r f i : Nat), i + r = h → r < f → zf_X8_odds_65 f (nI h) x2 (nL (c ^ i)) (nI i) rfd m mi fl H R = (if x2 = 0 then (if nL (c ^ h) = 0 then none else some ((((H * (1000000 : Int64)) / nL (c ^ h))).toInt32, rfd, m, mi, fl, H, R)) else (if nL (c ^ h) = 0 then none else some ((((R * (1000 : Int64)) / nL (c ^ h))).toInt32, rfd, m, mi, fl, H, R)))
  | _, 0, _, _, h => absurd h (Nat.not_lt_zero _)
  | 0, f + 1, i, hi, _ => by
    have e : i = h := by omega
    subst e
    unfold zf_X8_odds_65
    rw [if_pos (i_le.mpr (Int.le_refl _))]
  | r + 1, f + 1, i, hi, hf => by
    rw [← odds8_loop hc8 ec x2 hh rfd mi fl H R r f (i + 1) (by omega) (by omega)]
    conv => lhs; unfold zf_X8_odds_65
    unfold zf_X8_many
    rw [if_neg (show ¬ nI h ≤ nI i from nle (by omega) (by omega)), ec, Option.bind_some, nI_L (by omega), nL_mul, nI_1, Nat.pow_succ]
theorem ch0_all (hr : RNG m) {c h : Nat} (hc8 : c ≤ 8) (ec : m 32 = nI c) (hh : h ≤ 3) (mi : Nat → Int32) (fl : Bool) : ∃ mi' fl', zf_X8_chance_l0 (nI h) false m mi fl 0 0 = some (m, mi', fl', nL (SH m c h (t5 m) false), nL (SR m c h (t5 m))) := by
  have z : h = 0 ∨ h = 1 ∨ h = 2 ∨ h = 3 := by omega
  rcases z with rfl | rfl | rfl | rfl
  · obtain ⟨mi', fl', e, -⟩ := ch0_0 c (MSt_self m) (RNG_TR hr) false mi fl 0 0
    exact ⟨mi', fl', by rw [e, Int64.zero_add, Int64.zero_add]⟩
  · obtain ⟨mi', fl', e, -⟩ := ch0_1 c hc8 ec (MSt_self m) (RNG_TR hr) false mi fl 0 0
    exact ⟨mi', fl', by rw [e, Int64.zero_add, Int64.zero_add]⟩
  · obtain ⟨mi', fl', e, -⟩ := ch0_2 c hc8 ec (MSt_self m) (RNG_TR hr) false mi fl 0 0
    exact ⟨mi', fl', by rw [e, Int64.zero_add, Int64.zero_add]⟩
  · obtain ⟨mi', fl', e, -⟩ := ch0_3 c hc8 ec (MSt_self m) (RNG_TR hr) false mi fl 0 0
    exact ⟨mi', fl', by rw [e, Int64.zero_add, Int64.zero_add]⟩
theorem q_odds {wa : TWa} {pl : Nat → Int32} {fl : Bool} {H R : Int64} (hc : RC te st m) (hr : RNG m) (hf : RF rf rfd) (x1 x2 : Int32) : ∃ r1 r2, zf_X7_odds x1 x2 te st wa pl rf = some r1 ∧ zf_X8_odds x1 x2 rfd m mi fl H R = some r2 ∧ r1.1 = r2.1 ∧ r2.2.2.1 = m ∧ RF r1.2.2.2 r2.2.1 := by
  have hno : ∃ r1 r2, zf_X7_odds_18 te st wa pl rf = some r1 ∧ zf_X8_odds_22 rfd m mi fl H R = some r2 ∧ r1.1 = r2.1 ∧ r2.2.2.1 = m ∧ RF r1.2.2.2 r2.2.1 := by
    unfold zf_X7_odds_18 zf_X8_odds_22
    rw [r7_2, r8_2]
    exact ⟨_, _, rfl, rfl, rfl, rfl, rf_2 hf⟩
  unfold zf_X7_odds zf_X8_odds zf_X8_many
  rw [win7, win7, win8 (a := 0) (b := 3) (by decide) (by decide), win8 (a := 0) (b := 1) (by decide) (by decide), Option.bind_some, Option.bind_some, Option.bind_some, Option.bind_some, Option.bind_some]
  cases h1 : win x1 0 3
  · exact hno
  cases h2 : win x2 0 1
  · exact hno
  rw [if_pos rfl, if_pos rfl, if_pos rfl, if_pos rfl]
  obtain ⟨h, hh, rfl⟩ := win_nI (B := 3) (by decide) h1
  obtain ⟨q, hq, rfl⟩ := win_nI (B := 1) (by decide) h2
  obtain ⟨c, -, hc8, ec⟩ := hr.1
  rw [(RC_SM hc).1, ec]
  by_cases h0 : c = 0
  · subst h0
    rw [if_neg (show ¬ (0 : Int32) < nI 0 by decide), if_pos (show nI 0 = 0 by decide), r7_5, r8_5]
    exact ⟨_, _, rfl, rfl, rfl, rfl, rf_5 hf⟩
  have hT : c ^ h ≤ 512 := p_le hc8 hh
  have hT0 : 0 < c ^ h := Nat.pow_pos (by omega)
  obtain ⟨mi', fl', e2⟩ := ch0_all hr hc8 ec hh mi fl
  have e1 := odds7_loop hc ec (nI q) hh wa pl rf h FU 0 (by omega) (by show h < 2000; omega)
  have e3 := odds8_loop hc8 ec (nI q) hh rfd mi' fl' (nL (SH m c h (t5 m) false)) (nL (SR m c h (t5 m))) h FU 0 (by omega) (by show h < 2000; omega)
  have e1' : zf_X7_odds_47 te st FU (nI h) (nI q) 1 0 wa pl rf = _ := e1
  have e3' : zf_X8_odds_65 FU (nI h) (nI q) 1 0 rfd m mi' fl' (nL (SH m c h (t5 m) false)) (nL (SR m c h (t5 m))) = _ := e3
  have hn0 : ¬ nL (c ^ h) = 0 := fun y => by
    have := l_eq.mp y
    rw [nL_t (by omega), show (0 : Int64).toInt = 0 from rfl] at this
    omega
  rw [if_pos (show (0 : Int32) < nI c from (nIlt (a := 0) (by decide) (by omega)).mpr (by omega)), if_neg (show ¬ nI c = 0 from fun y => by have := (nIeq (b := 0) (by omega) (by decide)).mp y; omega), e2, Option.bind_some]
  dsimp only
  rw [e1', e3', if_neg hn0, if_neg hn0]
  have hs := fH_le (m := m) c h (t5 m) false (c ^ h)
  have hs2 := fR_le (m := m) (RNG_TR hr) c h (c ^ h)
  have es : sumN (fH m c h (t5 m) false) (c ^ h) = SH m c h (t5 m) false := rfl
  have es2 : sumN (fR m c h (t5 m)) (c ^ h) = SR m c h (t5 m) := rfl
  have d1 := Nat.div_le_self (1000000 * SH m c h (t5 m) false) (c ^ h)
  have d2 := Nat.div_le_self (1000 * SR m c h (t5 m)) (c ^ h)
  have z : q = 0 ∨ q = 1 := by omega
  rcases z with rfl | rfl
  · obtain ⟨wa', pl', f1⟩ := harm_loop hc hr (by omega) hc8 ec hh hT0 hT (c ^ h) FU 0 wa pl (by omega) (by show c ^ h < 2000; omega)
    have f1' : zf_X7_harmOdds (nI h) (nI (c ^ h)) te st wa pl = _ := f1
    rw [if_pos (show nI 0 = 0 from rfl), if_pos (show nI 0 = 0 from rfl), f1', Option.bind_some, es, show (1000000 : Int64) = nL 1000000 from rfl, nL_mul, nL_div (by omega) (by omega), Nat.mul_comm (SH m c h (t5 m) false) 1000000, nL_I (by omega)]
    exact ⟨_, _, rfl, rfl, rfl, rfl, hf⟩
  · obtain ⟨wa', pl', f1⟩ := mean_loop hc hr (by omega) hc8 ec hh hT0 hT (c ^ h) FU 0 wa pl (by omega) (by show c ^ h < 2000; omega)
    have f1' : zf_X7_meanRage (nI h) (nI (c ^ h)) te st wa pl = _ := f1
    rw [if_neg (show ¬ nI 1 = 0 by decide), if_neg (show ¬ nI 1 = 0 by decide), f1', Option.bind_some, es2, show (1000 : Int64) = nL 1000 from rfl, nL_mul, nL_div (by omega) (by omega), Nat.mul_comm (SR m c h (t5 m)) 1000, nL_I (by omega)]
    exact ⟨_, _, rfl, rfl, rfl, rfl, hf⟩
theorem pl_odds : PL_odds := by
  intro σ μ x1 x2 N hN hrel
  obtain ⟨hc, hk, hf, hs, ht, ha, hwd⟩ := hrel
  obtain ⟨r1, r2, h1, h2, h3, h4, h5⟩ := q_odds (wa := σ.2.2.2.2.2.2.2.2.2.1) (pl := σ.2.2.2.2.2.2.2.2.2.2.2.2.1) (mi := μ.2.2.2.1) (fl := μ.2.2.2.2.2.2.2.2.2.2.2.1) (H := μ.2.2.2.2.2.2.2.2.2.2.2.2.2.2.2.2.2.2.2.2.2.2.2.2.1) (R := μ.2.2.2.2.2.2.2.2.2.2.2.2.2.2.2.2.2.2.2.2.2.2.2.2.2) hc.1 hc.2.1 hf x1 x2
  exact ⟨r1, r2, h1, h2, h3, eqc h4 hc, hk, h5, eqs h4 hs, ht, ha, upE h4 hwd⟩
