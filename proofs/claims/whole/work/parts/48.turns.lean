/-! pure rows: by turns, matters, instead -/
variable {te : TTe} {st : TSt} {m : Nat → Int32} {n : Int32} {sh : TSh} {rf rfd ho sz mi : Nat → Int32} {el : Nat → Int64}
/-- keepers by turns, of c, from a on -/
def oT (c a : Nat) : Nat → Int32 := fun i => nI ((a + i) % c)
theorem oT_ORD {c a : Nat} (h0 : 0 < c) (hc8 : c ≤ 8) (ec : m 32 = nI c) (i : Nat) : ORD m (oT c a i) := by
  have := Nat.mod_lt (a + i) h0
  exact Or.inr (Or.inr ⟨(a + i) % c, by omega, by rw [ec]; exact (nIlt (by omega) (by omega)).mpr this, rfl⟩)
theorem oT_s {c : Nat} (h0 : 0 < c) (q : Nat) : (q + 1) % c = if q % c + 1 = c then 0 else q % c + 1 := by
  rw [← Nat.mod_add_mod]
  by_cases e : q % c + 1 = c
  · rw [if_pos e, e, Nat.mod_self]
  · have := Nat.mod_lt q h0
    rw [if_neg e, Nat.mod_eq_of_lt (by omega)]
theorem turns_loop (hr : RNG m) {c a x : Nat} (h0 : 0 < c) (hc8 : c ≤ 8) (ec : m 32 = nI c) (ha : a < c) (hx : x ≤ 48) (y : Int32) : ∀ (r f i : Nat) (μ : Nat → Int32) (fl : Bool), i + r = x → r < f → MSt m (wT m (oT c a) (t5 m) i) μ → ∃ fl', zf_X8_turns_11 f (nI a) (nI x) y (wH m (oT c a) (t5 m) i) (nI i) μ (kp 0 m mi) fl = some (if y = 0 then (wT m (oT c a) (t5 m) x).1 else wH m (oT c a) (t5 m) x, m, kp 0 m mi, fl')
  | _, 0, _, _, _, _, h, _ => absurd h (Nat.not_lt_zero _)
  | 0, f + 1, i, μ, fl, hi, _, hM => by
    have e : i = x := by omega
    subst e
    unfold zf_X8_turns_11 zf_X8_turns_57
    rw [if_pos (i_le.mpr (Int.le_refl _)), lay0 hM, Option.bind_some, Option.bind_some, hM.2.2.1]
    refine ⟨fl, ?_⟩
    by_cases z : y = 0
    · rw [if_pos z, if_pos z]
    · rw [if_neg z, if_neg z]
  | r + 1, f + 1, i, μ, fl, hi, hf, hM => by
    have hq : ¬ nI x ≤ nI i := nle (by omega) (by omega)
    obtain ⟨μ', s1, s2, -⟩ := step8 hM (TR_w (RNG_TR hr) i) (oT_ORD (a := a) h0 hc8 ec i) fl
    have eo : (nI a + nI i) - (nI a + nI i) / nI c * nI c = oT c a i := by
      rw [nI_add]
      exact pk_rem (by omega) h0 (by omega)
    unfold zf_X8_turns_11 zf_X8_many
    rw [if_neg hq, Option.bind_some, hM.2.1, ec, if_neg (show ¬ nI c = 0 from fun z => by have := (nIeq (b := 0) (by omega) (by omega)).mp z; omega), eo, s1, Option.bind_some, nI_1]
    exact turns_loop hr h0 hc8 ec ha hx y r f (i + 1) μ' _ (by omega) (by omega) s2
theorem turns8 (hr : RNG m) {c a x : Nat} (h0 : 0 < c) (hc8 : c ≤ 8) (ec : m 32 = nI c) (ha : a < c) (hx : x ≤ 48) (y : Int32) (mi : Nat → Int32) (fl : Bool) : ∃ fl', zf_X8_turns (nI a) (nI x) y m mi fl = some (if y = 0 then (wT m (oT c a) (t5 m) x).1 else wH m (oT c a) (t5 m) x, m, kp 0 m mi, fl') := by
  obtain ⟨fl', k⟩ := turns_loop (mi := mi) hr h0 hc8 ec ha hx y x FU 0 m fl (by omega) (by show x < 2000; omega) (MSt_self m)
  refine ⟨fl', ?_⟩
  unfold zf_X8_turns
  rw [keep0, Option.bind_some]
  exact k
theorem wTurns_loop (hc : RC te st m) {c a x : Nat} (h0 : 0 < c) (hc8 : c ≤ 8) (ec : m 32 = nI c) (hx : x ≤ 48) (wa : TWa) : ∀ (r f i : Nat) (pl : Nat → Int32), i + r = x → r < f → (∀ j, j < i → pl j = oT c a j) → ∃ pl', zf_X7_walkTurns_5 te st f (nI x) (oT c a i) (nI i) wa pl = zf_X7_walkTurns_56 te st (nI x) wa pl' ∧ ∀ j, j < x → pl' j = oT c a j
  | _, 0, _, _, _, h, _ => absurd h (Nat.not_lt_zero _)
  | 0, f + 1, i, pl, hi, _, hp => by
    have e : i = x := by omega
    subst e
    unfold zf_X7_walkTurns_5
    rw [if_pos (i_le.mpr (Int.le_refl _))]
    exact ⟨pl, rfl, hp⟩
  | r + 1, f + 1, i, pl, hi, hf, hp => by
    have hq : ¬ nI x ≤ nI i := nle (by omega) (by omega)
    have hq2 : ¬ (48 : Int32) ≤ nI i := nle (a := 48) (by omega) (by decide)
    have hl := Nat.mod_lt (a + i) h0
    have hs := oT_s h0 (a + i)
    unfold zf_X7_walkTurns_5 zf_X7_walkTurns_49
    rw [if_neg hq, if_neg hq2, if_pos (ix_nI (by omega) (by decide)), (RC_SM hc).1, ec, cl_nI (by omega), nI_1, show oT c a i + 1 = nI ((a + i) % c + 1) from nI_1 _]
    have ih := wTurns_loop hc h0 hc8 ec hx wa (a := a) r f (i + 1) (upd pl i (oT c a i)) (by omega) (by omega) (fun j hj => by
      by_cases e : j = i
      · subst e; rw [upd_s]
      · rw [upd_n e]; exact hp j (by omega))
    have eo : oT c a (i + 1) = nI ((a + i + 1) % c) := rfl
    rw [eo, hs] at ih
    by_cases e : (a + i) % c + 1 = c
    · rw [if_pos e] at ih
      rw [if_pos (show nI c ≤ nI ((a + i) % c + 1) from by rw [e]; exact i_le.mpr (Int.le_refl _))]
      exact ih
    · rw [if_neg e] at ih
      rw [if_neg (show ¬ nI c ≤ nI ((a + i) % c + 1) from nle (by omega) (by omega))]
      exact ih
theorem wTurns7 (hc : RC te st m) (hr : RNG m) {c a x : Nat} (h0 : 0 < c) (hc8 : c ≤ 8) (ec : m 32 = nI c) (ha : a < c) (hx : x ≤ 48) (wa : TWa) (pl : Nat → Int32) : ∃ wa' pl', zf_X7_walkTurns (nI a) (nI x) te st wa pl = some (wa', pl') ∧ wa'.1.1 = (wT m (oT c a) (t5 m) x).1 ∧ wa'.2.1 = wH m (oT c a) (t5 m) x := by
  obtain ⟨pl', k1, k2⟩ := wTurns_loop hc h0 hc8 ec hx wa (a := a) x FU 0 pl (by omega) (by show x < 2000; omega) (fun j hj => absurd hj (Nat.not_lt_zero _))
  obtain ⟨b', f', e1⟩ := along7 hc hr wa pl' (oT c a) (c := x) hx (fun i hi => ⟨k2 i hi, oT_ORD h0 hc8 ec i⟩)
  have e0 : oT c a 0 = nI a := by
    show nI ((a + 0) % c) = _
    rw [Nat.add_zero, Nat.mod_eq_of_lt ha]
  rw [e0] at k1
  have k1' : zf_X7_walkTurns (nI a) (nI x) te st wa pl = _ := k1
  rw [k1']
  unfold zf_X7_walkTurns_56
  rw [e1]
  exact ⟨_, _, rfl, rfl, rfl⟩
theorem q_turns {wa : TWa} {pl : Nat → Int32} {fl : Bool} (hc : RC te st m) (hr : RNG m) (hf : RF rf rfd) (x1 x2 : Int32) : (∃ r1 r2, zf_X7_harms x1 x2 te st wa pl rf = some r1 ∧ zf_X8_harms x1 x2 rfd m mi fl = some r2 ∧ r1.1 = r2.1 ∧ r2.2.2.1 = m ∧ RF r1.2.2.2 r2.2.1) ∧ (∃ r1 r2, zf_X7_byTurns x1 x2 te st wa pl rf = some r1 ∧ zf_X8_byTurns x1 x2 rfd m mi fl = some r2 ∧ r1.1 = r2.1 ∧ r2.2.2.1 = m ∧ RF r1.2.2.2 r2.2.1) := by
  have hno : ∃ r1 r2, zf_X7_harms_21 te st wa pl rf = some r1 ∧ zf_X8_harms_31 rfd m mi fl = some r2 ∧ r1.1 = r2.1 ∧ r2.2.2.1 = m ∧ RF r1.2.2.2 r2.2.1 := by
    unfold zf_X7_harms_21 zf_X8_harms_31
    rw [r7_2, r8_2]
    exact ⟨_, _, rfl, rfl, rfl, rfl, rf_2 hf⟩
  have hno2 : ∃ r1 r2, zf_X7_byTurns_21 te st wa pl rf = some r1 ∧ zf_X8_byTurns_31 rfd m mi fl = some r2 ∧ r1.1 = r2.1 ∧ r2.2.2.1 = m ∧ RF r1.2.2.2 r2.2.1 := by
    unfold zf_X7_byTurns_21 zf_X8_byTurns_31
    rw [r7_2, r8_2]
    exact ⟨_, _, rfl, rfl, rfl, rfl, rf_2 hf⟩
  unfold zf_X7_harms zf_X8_harms zf_X7_byTurns zf_X8_byTurns
  rw [hasKx (RC_SM hc) hr.1, keeper8 _ hr.1, win7, win8 (a := 0) (b := 48) (by decide) (by decide)]
  simp only [Option.bind_some]
  cases h1 : isK (m 32) x1.toInt64
  · exact ⟨hno, hno2⟩
  cases h2 : win x2 0 48
  · exact ⟨hno, hno2⟩
  simp only [if_true]
  obtain ⟨a, h8, hk, rfl⟩ := isK_32 hr.1 h1
  obtain ⟨x, hx, rfl⟩ := win_nI (B := 48) (by decide) h2
  obtain ⟨c, -, hc8, ec⟩ := hr.1
  have hac : a < c := by rw [ec] at hk; exact (nIlt (by omega) (by omega)).mp hk
  obtain ⟨wa', pl', k1, k2, k3⟩ := wTurns7 hc hr (by omega) hc8 ec hac hx wa pl
  obtain ⟨fl1, j1⟩ := turns8 hr (by omega) hc8 ec hac hx 1 mi fl
  obtain ⟨fl0, j0⟩ := turns8 hr (by omega) hc8 ec hac hx 0 mi fl
  rw [k1, j1, j0]
  exact ⟨⟨_, _, rfl, rfl, k3, rfl, hf⟩, ⟨_, _, rfl, rfl, k2, rfl, hf⟩⟩
theorem pl_harms : PL_harms := by
  intro σ μ x1 x2 N hN hrel
  obtain ⟨hc, hk, hf, hs, ht, ha, hwd⟩ := hrel
  obtain ⟨r1, r2, h1, h2, h3, h4, h5⟩ := (q_turns (wa := σ.2.2.2.2.2.2.2.2.2.1) (pl := σ.2.2.2.2.2.2.2.2.2.2.2.2.1) (mi := μ.2.2.2.1) (fl := μ.2.2.2.2.2.2.2.2.2.2.2.1) hc.1 hc.2.1 hf x1 x2).1
  exact ⟨r1, r2, h1, h2, h3, eqc h4 hc, hk, h5, eqs h4 hs, ht, ha, upE h4 hwd⟩
theorem pl_byTurns : PL_byTurns := by
  intro σ μ x1 x2 N hN hrel
  obtain ⟨hc, hk, hf, hs, ht, ha, hwd⟩ := hrel
  obtain ⟨r1, r2, h1, h2, h3, h4, h5⟩ := (q_turns (wa := σ.2.2.2.2.2.2.2.2.2.1) (pl := σ.2.2.2.2.2.2.2.2.2.2.2.2.1) (mi := μ.2.2.2.1) (fl := μ.2.2.2.2.2.2.2.2.2.2.2.1) hc.1 hc.2.1 hf x1 x2).2
  exact ⟨r1, r2, h1, h2, h3, eqc h4 hc, hk, h5, eqs h4 hs, ht, ha, upE h4 hwd⟩
theorem wH_rng (o : Nat → Int32) (t : T5) : ∀ i, bnd (wH m o t i) 0 i
  | 0 => ⟨0, by omega, by omega, rfl⟩
  | i + 1 => by
    obtain ⟨a, -, h2, e⟩ := wH_rng o t i
    unfold wH
    rw [e]
    cases sHm m (o i) (wT m o t i)
    · exact ⟨a, by omega, by omega, Int32.add_zero _⟩
    · exact ⟨a + 1, by omega, by omega, nI_1 a⟩
theorem starts_loop (hc : RC te st m) (hr : RNG m) {c : Nat} (hc8 : c ≤ 8) (ec : m 32 = nI c) : ∀ (r f g i y : Nat) (wa : TWa) (pl mi : Nat → Int32) (fl : Bool), i + r = c → r < f → r < g → y < c → ∃ v wa' pl' mi' fl', zf_X7_starts_24 te st f (nI y) (wH m (oT c y) (t5 m) 24) (nI i) wa pl rf = some (v, wa', pl', rf) ∧ zf_X8_starts_18 g (nI y) (nI i) rfd m mi fl = some (v, rfd, m, mi', fl')
  | _, 0, _, _, _, _, _, _, _, _, h, _, _ => absurd h (Nat.not_lt_zero _)
  | _, _ + 1, 0, _, _, _, _, _, _, _, _, h, _ => absurd h (Nat.not_lt_zero _)
  | 0, f + 1, g + 1, i, y, wa, pl, mi, fl, h0, _, _, hy => by
    have e : i = c := by omega
    subst e
    unfold zf_X7_starts_24 zf_X8_starts_18 zf_X8_many
    rw [(RC_SM hc).1, ec, Option.bind_some, if_pos (i_le.mpr (Int.le_refl _)), if_pos (i_le.mpr (Int.le_refl _))]
    exact ⟨_, _, _, _, _, rfl, rfl⟩
  | r + 1, f + 1, g + 1, i, y, wa, pl, mi, fl, h0, hf, hg, hy => by
    have hn : ¬ nI c ≤ nI i := nle (by omega) (by omega)
    obtain ⟨wa', pl', k1, k2, k3⟩ := wTurns7 hc hr (by omega) hc8 ec (show i < c by omega) (x := 24) (by omega) wa pl
    obtain ⟨fl1, j1⟩ := turns8 hr (by omega) hc8 ec (show i < c by omega) (x := 24) (by omega) 1 mi fl
    obtain ⟨fl2, j2⟩ := turns8 hr (by omega) hc8 ec hy (x := 24) (by omega) 1 (kp 0 m mi) fl1
    have k1' : zf_X7_walkTurns (nI i) 24 te st wa pl = _ := k1
    have j1' : zf_X8_turns (nI i) 24 1 m mi fl = some (wH m (oT c i) (t5 m) 24, _) := j1
    have j2' : zf_X8_turns (nI y) 24 1 m (kp 0 m mi) fl1 = some (wH m (oT c y) (t5 m) 24, _) := j2
    unfold zf_X7_starts_24 zf_X8_starts_18 zf_X8_many zf_X7_starts_63 zf_X8_starts_50
    rw [(RC_SM hc).1, ec, Option.bind_some, if_neg hn, if_neg hn]
    simp only [k1', j1', j2', Option.bind_some]
    rw [nI_1, k3]
    by_cases z : wH m (oT c y) (t5 m) 24 ≤ wH m (oT c i) (t5 m) 24
    · rw [if_pos z, if_pos z]
      exact starts_loop hc hr hc8 ec r f g (i + 1) y _ _ _ _ (by omega) (by omega) (by omega) hy
    · rw [if_neg z, if_neg z]
      exact starts_loop hc hr hc8 ec r f g (i + 1) i _ _ _ _ (by omega) (by omega) (by omega) (by omega)
theorem q_starts {wa : TWa} {pl : Nat → Int32} {fl : Bool} (hc : RC te st m) (hr : RNG m) (hf : RF rf rfd) : ∃ r1 r2, zf_X7_starts te st wa pl rf = some r1 ∧ zf_X8_starts rfd m mi fl = some r2 ∧ r1.1 = r2.1 ∧ r2.2.2.1 = m ∧ RF r1.2.2.2 r2.2.1 := by
  unfold zf_X7_starts zf_X8_starts zf_X8_many
  rw [(RC_SM hc).1, Option.bind_some]
  obtain ⟨c, -, hc8, ec⟩ := hr.1
  by_cases z : c = 0
  · subst z
    rw [ec, if_neg (by decide), if_pos (by decide), r7_5, r8_5]
    exact ⟨_, _, rfl, rfl, rfl, rfl, rf_5 hf⟩
  · rw [if_pos (show 0 < m 32 from by rw [ec]; exact (nIlt (a := 0) (by omega) (by omega)).mpr (by omega)), if_neg (show ¬ m 32 = 0 from fun y => by rw [ec] at y; have := (nIeq (b := 0) (by omega) (by omega)).mp y; omega)]
    obtain ⟨wa', pl', k1, k2, k3⟩ := wTurns7 hc hr (by omega) hc8 ec (show 0 < c by omega) (x := 24) (by omega) wa pl
    have k1' : zf_X7_walkTurns 0 24 te st wa pl = _ := k1
    obtain ⟨v, wa'', pl'', mi'', fl'', j1, j2⟩ := starts_loop (rf := rf) (rfd := rfd) hc hr hc8 ec (c - 1) 1999 FU 1 0 wa' pl' mi fl (by omega) (by omega) (by show c - 1 < 2000; omega) (by omega)
    have hb := (bnd_iff (by decide)).mp (wH_rng (m := m) (oT c 0) (t5 m) 24)
    have e24 : zf_X7_starts_24 te st FU (-1) 1000000 0 wa pl rf = zf_X7_starts_24 te st 1999 0 (wH m (oT c 0) (t5 m) 24) (nI 1) wa' pl' rf := by
      show zf_X7_starts_24 te st (1999 + 1) (-1) 1000000 0 wa pl rf = _
      conv => lhs; unfold zf_X7_starts_24
      unfold zf_X7_starts_63
      rw [(RC_SM hc).1, ec, if_neg (show ¬ nI c ≤ 0 from nle (i := 0) (by omega) (by omega)), k1', Option.bind_some, k3, if_neg (show ¬ (1000000 : Int32) ≤ wH m (oT c 0) (t5 m) 24 from fun y => by have := i_le.mp y; rw [show (1000000 : Int32).toInt = 1000000 from rfl] at this; omega)]
      rfl
    have j2' : zf_X8_starts_18 FU 0 1 rfd m mi fl = _ := j2
    have j1' : zf_X7_starts_24 te st 1999 0 (wH m (oT c 0) (t5 m) 24) (nI 1) wa' pl' rf = _ := j1
    rw [e24, j1', j2']
    exact ⟨_, _, rfl, rfl, rfl, rfl, hf⟩
theorem pl_starts : PL_starts := by
  intro σ μ N hN hrel
  obtain ⟨hc, hk, hf, hs, ht, ha, hwd⟩ := hrel
  obtain ⟨r1, r2, h1, h2, h3, h4, h5⟩ := q_starts (wa := σ.2.2.2.2.2.2.2.2.2.1) (pl := σ.2.2.2.2.2.2.2.2.2.2.2.2.1) (mi := μ.2.2.2.1) (fl := μ.2.2.2.2.2.2.2.2.2.2.2.1) hc.1 hc.2.1 hf
  exact ⟨r1, r2, h1, h2, h3, eqc h4 hc, hk, h5, eqs h4 hs, ht, ha, upE h4 hwd⟩

theorem rage8 (hr : RNG m) (ros : Nat → Int32) {c : Nat} (hc : c ≤ 40) (ho : ∀ i, i < c → ORD m (ros i)) (mi : Nat → Int32) (fl : Bool) (x y : Int32) : ∃ fl' fls' ff', zf_X8_rageBehind (nI c) m mi fl ros x y = some ((wT m ros (t5 m) c).1, m, kp 0 m mi, fl', fls', ff') := by
  obtain ⟨μ', fl', e2, e3⟩ := go8 (RNG_TR hr) ros hc ho fl x y
  unfold zf_X8_rageBehind
  rw [keep0, Option.bind_some, e2, Option.bind_some]
  dsimp only
  rw [lay0 e3, Option.bind_some, e3.2.2.1]
  exact ⟨_, _, _, rfl⟩
theorem wT_congr {a b : Nat → Int32} (t : T5) {c : Nat} (h : ∀ i, i < c → a i = b i) : ∀ i, i ≤ c → wT m a t i = wT m b t i
  | 0, _ => rfl
  | i + 1, hi => by
    unfold wT
    rw [wT_congr t h i (by omega), h i (by omega)]
theorem rageW7 (hc : RC te st m) (hr : RNG m) (wa : TWa) (pl ros : Nat → Int32) {c i : Nat} (hcc : c ≤ 40) (hi : i < c) {o : Int32} (hO : ORD m o) (ho : ∀ j, j < c → pl j = ros j ∧ ORD m (ros j)) : ∃ wa', zf_X7_rageWith (nI c) (nI i) o te st wa pl = some ((wT m (upd ros i o) (t5 m) c).1, wa', pl) := by
  obtain ⟨b', f', e1⟩ := along7 hc hr wa (upd pl i o) (upd ros i o) (c := c) (by omega) (fun j hj => by
    by_cases e : j = i
    · subst e; rw [upd_s, upd_s]; exact ⟨rfl, hO⟩
    · rw [upd_n e, upd_n e]; exact ho j hj)
  have i8 := ix_nI (j := i) (n := 48) (by omega) (by decide)
  unfold zf_X7_rageWith
  rw [if_neg (nn0 (by omega)), if_pos (show nI i < 48 from (nIlt (b := 48) (by omega) (by decide)).mpr (by omega)), if_pos i8, if_pos i8, cl_nI (by omega), e1, Option.bind_some, if_pos i8, upd_upd, upd_self]
  exact ⟨_, rfl⟩
theorem wT_1 (hr : RNG m) (o : Nat → Int32) (c : Nat) : 0 ≤ (wT m o (t5 m) c).1.toInt ∧ (wT m o (t5 m) c).1.toInt ≤ 99 := (TR_w (RNG_TR hr) c).1
theorem matters_loop (hc : RC te st m) (hr : RNG m) (pl ros : Nat → Int32) {c : Nat} (hcc : c ≤ 40) (hor : ∀ j, j < c → pl j = ros j ∧ ORD m (ros j)) : ∀ (r f i : Nat) (v4 w4 v5 : Int32) (wa : TWa) (mi : Nat → Int32) (fl : Bool) (fls ff : Int32), i + r = c → r < f → (v4 = w4 ∨ (v5 = -1 ∧ 0 < r)) → ∃ v wa' mi' fl' fls' ff', zf_X7_matters_38 te st sh f (nI c) v4 v5 (nI i) wa pl rf = some (v, wa', pl, rf) ∧ zf_X8_matters_40 ho sz el f (nI c) w4 v5 (nI i) rfd m mi fl ros fls ff = some (v, rfd, m, mi', fl', ros, fls', ff')
  | _, 0, _, _, _, _, _, _, _, _, _, _, h, _ => absurd h (Nat.not_lt_zero _)
  | 0, f + 1, i, v4, w4, v5, wa, mi, fl, fls, ff, h0, _, he => by
    have e : i = c := by omega
    subst e
    have he : v4 = w4 := he.resolve_right (fun y => absurd y.2 (Nat.lt_irrefl _))
    subst he
    unfold zf_X7_matters_38 zf_X8_matters_40
    rw [if_pos (i_le.mpr (Int.le_refl _)), if_pos (i_le.mpr (Int.le_refl _))]
    exact ⟨_, _, _, _, _, _, rfl, rfl⟩
  | r + 1, f + 1, i, v4, w4, v5, wa, mi, fl, fls, ff, h0, hf, he => by
    have hn : ¬ nI c ≤ nI i := nle (by omega) (by omega)
    have i8 := ix_nI (j := i) (n := 40) (by omega) (by decide)
    have hm1 : ORD m (-1) := Or.inl rfl
    obtain ⟨wa', k1⟩ := rageW7 hc hr wa pl ros hcc (show i < c by omega) hm1 hor
    obtain ⟨fl', fls', ff', k2⟩ := rage8 hr (upd ros i (-1)) hcc (fun j hj => by
      by_cases e : j = i
      · subst e; rw [upd_s]; exact hm1
      · rw [upd_n e]; exact (hor j hj).2) mi fl fls ff
    have hw := wT_1 hr (upd ros i (-1)) c
    unfold zf_X7_matters_38 zf_X8_matters_40 zf_X7_matters_69 zf_X8_matters_93
    rw [if_neg hn, if_neg hn, if_pos i8, if_pos i8, cl_nI (by omega), k1, k2, Option.bind_some, Option.bind_some, if_pos i8, nI_1, upd_upd, upd_self]
    generalize (wT m (upd ros i (-1)) (t5 m) c).1 = A at hw
    by_cases y : A ≤ v5
    · have e5 : (if A < v5 then v5 else A) = v5 := by
        by_cases z : A < v5
        · rw [if_pos z]
        · rw [if_neg z]; exact i_eq.mpr (by have := i_le.mp y; have := i_nlt z; omega)
      have he : v4 = w4 := he.resolve_right (fun z => by rw [z.1] at y; have := i_le.mp y; rw [show (-1 : Int32).toInt = -1 from rfl] at this; omega)
      rw [if_pos y, if_pos y, e5]
      exact matters_loop hc hr pl ros hcc hor r f (i + 1) _ _ _ _ _ _ _ _ (by omega) (by omega) (Or.inl he)
    · have e5 : (if A < v5 then v5 else A) = A := if_neg (fun z => y (i_le.mpr (by have := i_lt.mp z; omega)))
      rw [if_neg y, if_neg y, e5]
      exact matters_loop hc hr pl ros hcc hor r f (i + 1) _ _ _ _ _ _ _ _ (by omega) (by omega) (Or.inl rfl)
theorem q_matters {wa : TWa} {pl ros : Nat → Int32} {fl : Bool} {fls ff : Int32} (hc : RC te st m) (hr : RNG m) (hf : RF rf rfd) (hs : RS (m 32) sh ho sz el) (x1 x2 : Int32) : ∃ r1 r2, zf_X7_matters x1 x2 te st sh wa pl rf = some r1 ∧ zf_X8_matters x1 x2 rfd m mi fl ho sz el ros fls ff = some r2 ∧ r1.1 = r2.1 ∧ r2.2.2.1 = m ∧ RF r1.2.2.2 r2.2.1 := by
  unfold zf_X7_matters zf_X8_matters zf_X8_matters_16 zf_X8_matters_27
  rcases load_both hs (RC_SM hc).1 hr.1 x1 x2 true pl ros with ⟨e, ros', hFE, k1, k2⟩ | ⟨c, pl', ros', hcc, rfl, -, k1, k2, k3⟩
  · obtain ⟨a, b, j1, j2, j3⟩ := refB hf hFE
    have hneg : e < 0 := by rcases hFE with rfl | rfl | rfl | rfl | rfl <;> decide
    rw [k1, k2, Option.bind_some, Option.bind_some, if_neg (FE0 hFE), if_pos hneg, if_neg (FEn hFE), j1, j2]
    exact ⟨_, _, rfl, rfl, rfl, rfl, j3⟩
  · rw [k1, k2, Option.bind_some, Option.bind_some, if_pos rfl, if_neg (show ¬ ((1 : Int32), ros').1 < 0 from by show ¬ (1 : Int32) < 0; decide)]
    by_cases z : c = 0
    · subst z
      rw [if_pos (by decide), if_pos (by decide), if_pos (show (0 : Int32) ≤ ((1 : Int32), ros').1 from le01), r7_5, r8_5]
      exact ⟨_, _, rfl, rfl, rfl, rfl, rf_5 hf⟩
    · have hz : ¬ nI c = 0 := fun y => by have := (nIeq (b := 0) (by omega) (by omega)).mp y; omega
      rw [if_neg hz, if_neg hz]
      obtain ⟨v, wa', mi', fl', fls', ff', e1, e2⟩ := matters_loop (rf := rf) (rfd := rfd) (sh := sh) (ho := ho) (sz := sz) (el := el) hc hr pl' ros' hcc k3 c FU 0 (-1) 0 (-1) wa mi fl fls ff (by omega) (by show c < 2000; omega) (Or.inr ⟨rfl, by omega⟩)
      exact ⟨_, _, e1, e2, rfl, rfl, hf⟩
theorem pl_matters : PL_matters := by
  intro σ μ x1 x2 N hN hrel
  obtain ⟨hc, hk, hf, hs, ht, ha, hwd⟩ := hrel
  obtain ⟨r1, r2, h1, h2, h3, h4, h5⟩ := q_matters (wa := σ.2.2.2.2.2.2.2.2.2.1) (pl := σ.2.2.2.2.2.2.2.2.2.2.2.2.1) (mi := μ.2.2.2.1) (ros := μ.2.2.2.2.2.2.2.2.2.2.2.2.2.2.2.2.2.1) (fl := μ.2.2.2.2.2.2.2.2.2.2.2.1) (fls := μ.2.2.2.2.2.2.2.2.2.2.2.2.2.2.2.2.2.2.1) (ff := μ.2.2.2.2.2.2.2.2.2.2.2.2.2.2.2.2.2.2.2.1) hc.1 hc.2.1 hf hs x1 x2
  exact ⟨r1, r2, h1, h2, h3, eqc h4 hc, hk, h5, eqs h4 hs, ht, ha, upE h4 hwd⟩

theorem roster_b (hs : RS (m 32) sh ho sz el) (x1 x2 : Int32) {b1 b2 : Bool} (h : (b1 && win x2 0 40) = (b2 && win x2 0 40)) (pl : Nat → Int32) : zf_X7_takeRoster x1 x2 b1 st sh pl = zf_X7_takeRoster x1 x2 b2 st sh pl := by
  unfold zf_X7_takeRoster
  rw [elF7 hs, elF7 hs]
  have e : efv ho sz x1 x2 40 1 b1 = efv ho sz x1 x2 40 1 b2 := by
    unfold efv
    rw [h]
  rw [e]
theorem instead_loop (hc : RC te st m) (hr : RNG m) (pl ros0 : Nat → Int32) {c k q : Nat} (hcc : c ≤ 40) (hk8 : k ≤ 8) (ec : m 32 = nI k) (hq : q < c) (hor : ∀ j, j < c → pl j = ros0 j ∧ ORD m (ros0 j)) : ∀ (r f i : Nat) (v5 v6 w6 : Int32) (wa : TWa) (ros mi : Nat → Int32) (fl : Bool) (fls ff : Int32), i + r = k + 2 → r < f → (∀ j, j ≠ q → ros j = ros0 j) → (v6 = w6 ∨ (v6 = 1000000 ∧ w6 = 100)) → ∃ v wa' ros' mi' fl' fls' ff', zf_X7_instead_44 te st sh f (nI c) (nI q) v5 v6 (nI i) wa pl rf = some (v, wa', pl, rf) ∧ zf_X8_instead_40 ho sz el f (nI c) (nI q) v5 w6 (nI i) rfd m mi fl ros fls ff = some (v, rfd, m, mi', fl', ros', fls', ff')
  | _, 0, _, _, _, _, _, _, _, _, _, _, _, h, _, _ => absurd h (Nat.not_lt_zero _)
  | 0, f + 1, i, v5, v6, w6, wa, ros, mi, fl, fls, ff, h0, _, hro, he => by
    have e : i = k + 2 := by omega
    subst e
    unfold zf_X7_instead_44 zf_X8_instead_40 zf_X7_orderCount zf_X8_many
    rw [(RC_SM hc).1, ec, Option.bind_some, Option.bind_some, show nI k + 2 = nI (k + 2) from nI_add k 2, if_pos (i_le.mpr (Int.le_refl _)), if_pos (i_le.mpr (Int.le_refl _))]
    exact ⟨_, _, _, _, _, _, _, rfl, rfl⟩
  | r + 1, f + 1, i, v5, v6, w6, wa, ros, mi, fl, fls, ff, h0, hf, hro, he => by
    have hn : ¬ nI (k + 2) ≤ nI i := nle (by omega) (by omega)
    have i8 := ix_nI (j := q) (n := 40) (by omega) (by decide)
    have hO := ordAt_ORD (m := m) hk8 ec (i := i) (by omega)
    obtain ⟨wa', k1⟩ := rageW7 hc hr wa pl ros0 hcc hq hO hor
    obtain ⟨fl', fls', ff', k2⟩ := rage8 hr (upd ros0 q (ordAt k i)) hcc (fun j hj => by
      by_cases e : j = q
      · subst e; rw [upd_s]; exact hO
      · rw [upd_n e]; exact (hor j hj).2) mi fl fls ff
    have hw := wT_1 hr (upd ros0 q (ordAt k i)) c
    unfold zf_X7_instead_44 zf_X8_instead_40 zf_X7_orderCount zf_X8_many zf_X7_instead_92 zf_X8_instead_88
    rw [(RC_SM hc).1, ec, Option.bind_some, Option.bind_some, show nI k + 2 = nI (k + 2) from nI_add k 2, if_neg hn, if_neg hn, ordAt7 (RC_SM hc).1 hk8 ec (by omega), ordAt8 hk8 ec (by omega), Option.bind_some, Option.bind_some, if_pos i8, cl_nI (by omega), upd_q hro, k1, k2]
    simp only [Option.bind_some]
    rw [ordAt8 hk8 ec (by omega), nI_1]
    simp only [Option.bind_some]
    generalize (wT m (upd ros0 q (ordAt k i)) (t5 m) c).1 = A at hw
    have hro' : ∀ j, j ≠ q → upd ros0 q (ordAt k i) j = ros0 j := fun j hj => upd_n hj
    rcases he with he | ⟨e1, e2⟩
    · subst he
      by_cases y : v6 ≤ A
      · have e6 : (if v6 < A then v6 else A) = v6 := by
          by_cases z : v6 < A
          · rw [if_pos z]
          · rw [if_neg z]; exact i_eq.mpr (by have := i_le.mp y; have := i_nlt z; omega)
        rw [if_pos y, if_pos y, e6]
        exact instead_loop hc hr pl ros0 hcc hk8 ec hq hor r f (i + 1) _ _ _ _ _ _ _ _ _ (by omega) (by omega) hro' (Or.inl rfl)
      · have e6 : (if v6 < A then v6 else A) = A := if_neg (fun z => y (i_le.mpr (by have := i_lt.mp z; omega)))
        rw [if_neg y, if_neg y, e6]
        exact instead_loop hc hr pl ros0 hcc hk8 ec hq hor r f (i + 1) _ _ _ _ _ _ _ _ _ (by omega) (by omega) hro' (Or.inl rfl)
    · subst e1 e2
      have y1 : ¬ (1000000 : Int32) ≤ A := fun y => by have := i_le.mp y; rw [show (1000000 : Int32).toInt = 1000000 from rfl] at this; omega
      have y2 : ¬ (100 : Int32) ≤ A := fun y => by have := i_le.mp y; rw [show (100 : Int32).toInt = 100 from rfl] at this; omega
      have e6 : (if (100 : Int32) < A then (100 : Int32) else A) = A := if_neg (fun z => by have := i_lt.mp z; rw [show (100 : Int32).toInt = 100 from rfl] at this; omega)
      rw [if_neg y1, if_neg y2, e6]
      exact instead_loop hc hr pl ros0 hcc hk8 ec hq hor r f (i + 1) _ _ _ _ _ _ _ _ _ (by omega) (by omega) hro' (Or.inl rfl)
theorem q_instead {wa : TWa} {pl ros : Nat → Int32} {fl : Bool} {fls ff : Int32} (hc : RC te st m) (hr : RNG m) (hf : RF rf rfd) (hs : RS (m 32) sh ho sz el) (x1 x2 x3 : Int32) : ∃ r1 r2, zf_X7_instead x1 x2 x3 te st sh wa pl rf = some r1 ∧ zf_X8_instead x1 x2 x3 rfd m mi fl ho sz el ros fls ff = some r2 ∧ r1.1 = r2.1 ∧ r2.2.2.1 = m ∧ RF r1.2.2.2 r2.2.1 := by
  have e7 : zf_X7_instead x1 x2 x3 te st sh wa pl rf = zf_X7_instead_17 te st sh x2 x3 (!decide (x3 < 0) && !decide (x2 ≤ x3)) x2 x1 wa pl rf := by
    unfold zf_X7_instead zf_X7_instead_16
    by_cases a : x3 < 0
    · rw [if_pos a, decide_eq_true a]; rfl
    · rw [if_neg a, decide_eq_false a]
      by_cases b : x2 ≤ x3
      · rw [if_pos b, decide_eq_true b]; rfl
      · rw [if_neg b, decide_eq_false b]; rfl
  have hb : ((!decide (x3 < 0) && !decide (x2 ≤ x3)) && win x2 0 40) = (win x3 0 (x2 - 1) && win x2 0 40) := by
    cases hw : win x2 0 40
    · rw [Bool.and_false, Bool.and_false]
    · rw [Bool.and_true, Bool.and_true]
      obtain ⟨c, hcc, rfl⟩ := win_nI (B := 40) (by decide) hw
      have e1 : (nI c - 1).toInt = (c : Int) - 1 := by
        rw [i_sub (by rw [nI_t (by omega)]; show _ ≤ _ - (1 : Int); omega) (by rw [nI_t (by omega)]; show _ - (1 : Int) < _; omega), nI_t (by omega)]
        rfl
      refine Bool.eq_iff_iff.mpr ?_
      rw [win_iff, Bool.and_eq_true, Bool.not_eq_true', Bool.not_eq_true', decide_eq_false_iff_not, decide_eq_false_iff_not, i_lt, i_le, e1, nI_t (by omega), show (0 : Int32).toInt = 0 from rfl]
      omega
  rw [e7]
  unfold zf_X7_instead_17 zf_X8_instead
  rw [roster_b hs x1 x2 hb, win8 (a := 0) (b := x2 - 1) (by decide) rfl, Option.bind_some]
  rcases load_both hs (RC_SM hc).1 hr.1 x1 x2 (win x3 0 (x2 - 1)) pl ros with ⟨e, ros', hFE, k1, k2⟩ | ⟨c, pl', ros', hcc, e2, hw, k1, k2, k3⟩
  · obtain ⟨a, b, j1, j2, j3⟩ := refB hf hFE
    rw [k1, k2, Option.bind_some, Option.bind_some, if_neg (FE0 hFE), if_neg (FEn hFE), j1, j2]
    exact ⟨_, _, rfl, rfl, rfl, rfl, j3⟩
  · rw [k1, k2, Option.bind_some, Option.bind_some, if_pos rfl, if_pos (show (0 : Int32) ≤ ((1 : Int32), ros').1 from le01)]
    subst e2
    have e1 : (nI c - 1).toInt = (c : Int) - 1 := by
      rw [i_sub (by rw [nI_t (by omega)]; show _ ≤ _ - (1 : Int); omega) (by rw [nI_t (by omega)]; show _ - (1 : Int) < _; omega), nI_t (by omega)]
      rfl
    have hx := win_iff.mp hw
    rw [e1, show (0 : Int32).toInt = 0 from rfl] at hx
    have ex : x3 = nI x3.toInt.toNat := i_eq.mpr (by rw [nI_t (by omega)]; omega)
    obtain ⟨k, -, hk8, ec⟩ := hr.1
    obtain ⟨v, wa', ros2, mi', fl', fls', ff', e3, e4⟩ := instead_loop (rf := rf) (rfd := rfd) (sh := sh) (ho := ho) (sz := sz) (el := el) hc hr pl' ros' hcc hk8 ec (q := x3.toInt.toNat) (by omega) k3 (k + 2) FU 0 (-1) 1000000 100 wa ros' mi fl fls ff (by omega) (by show k + 2 < 2000; omega) (fun _ _ => rfl) (Or.inr ⟨rfl, rfl⟩)
    rw [← ex] at e3 e4
    exact ⟨_, _, e3, e4, rfl, rfl, hf⟩
theorem pl_instead : PL_instead := by
  intro σ μ x1 x2 x3 N hN hrel
  obtain ⟨hc, hk, hf, hs, ht, ha, hwd⟩ := hrel
  obtain ⟨r1, r2, h1, h2, h3, h4, h5⟩ := q_instead (wa := σ.2.2.2.2.2.2.2.2.2.1) (pl := σ.2.2.2.2.2.2.2.2.2.2.2.2.1) (mi := μ.2.2.2.1) (ros := μ.2.2.2.2.2.2.2.2.2.2.2.2.2.2.2.2.2.1) (fl := μ.2.2.2.2.2.2.2.2.2.2.2.1) (fls := μ.2.2.2.2.2.2.2.2.2.2.2.2.2.2.2.2.2.2.1) (ff := μ.2.2.2.2.2.2.2.2.2.2.2.2.2.2.2.2.2.2.2.1) hc.1 hc.2.1 hf hs x1 x2 x3
  exact ⟨r1, r2, h1, h2, h3, eqc h4 hc, hk, h5, eqs h4 hs, ht, ha, upE h4 hwd⟩
