/-! pure rows: drawn orders -/
variable {te : TTe} {st : TSt} {m : Nat → Int32} {n : Int32} {sh : TSh} {rf rfd ho sz : Nat → Int32} {el : Nat → Int64}
theorem hi16 (x : Int32) : ∃ a, a < 65536 ∧ (x.toUInt32 >>> ((16 : Int32).toUInt32 &&& Int32.toUInt32 31)).toInt32 = nI a := by
  have e : ((16 : Int32).toUInt32 &&& Int32.toUInt32 31) = (16 : UInt32) := by decide
  rw [e]
  have h : (x.toUInt32 >>> (16 : UInt32)).toNat < 65536 := by
    rw [UInt32.toNat_shiftRight]
    have := x.toUInt32.toNat_lt
    show x.toUInt32.toNat >>> 16 < 65536
    rw [Nat.shiftRight_eq_div_pow]
    omega
  refine ⟨(x.toUInt32 >>> (16 : UInt32)).toNat, h, i_eq.mpr ?_⟩
  rw [nI_t (by omega)]
  show (x.toUInt32 >>> (16 : UInt32)).toBitVec.toInt = _
  rw [BitVec.toInt_eq_toNat_of_lt (by show 2 * (x.toUInt32 >>> (16 : UInt32)).toNat < _; omega)]
  rfl
/-- the number drawn below d -/
def drw (s : Int32) (d : Int32) : Int32 := ((s.toUInt32 >>> ((16 : Int32).toUInt32 &&& Int32.toUInt32 31)).toInt32 - (s.toUInt32 >>> ((16 : Int32).toUInt32 &&& Int32.toUInt32 31)).toInt32 / d * d)
theorem drw_nI (s : Int32) {d : Nat} (h0 : 0 < d) (hd : d < 65536) : ∃ a, a < d ∧ drw s (nI d) = nI a := by
  obtain ⟨a, ha, e⟩ := hi16 s
  refine ⟨a % d, Nat.mod_lt _ h0, ?_⟩
  unfold drw
  rw [e, pk_div (by omega) h0 (by omega), pk_mul]
  have h1 : a / d * d ≤ a := Nat.div_mul_le_self a d
  have h2 := Nat.div_add_mod a d
  rw [Nat.mul_comm] at h2
  refine i_eq.mpr ?_
  rw [i_sub (by rw [nI_t (by omega), nI_t (by omega)]; omega) (by rw [nI_t (by omega), nI_t (by omega)]; omega), nI_t (by omega), nI_t (by omega), nI_t (by omega)]
  omega
def nxt (s : Int32) : Int32 := s * 1103515245 + 12345
theorem RC_38 (hc : RC te st m) (x : Int32) : RC te st (upd m 38 x) := by
  have g7 : ∀ j, j ≠ 38 → upd m 38 x j = m j := fun j hj => upd_n hj
  obtain ⟨g1, g2, g3, g4, g5, g6, gk⟩ := hc
  refine ⟨g1.trans (g7 _ (by decide)).symm, g2.trans (g7 _ (by decide)).symm, g3.trans (g7 _ (by decide)).symm, g4.trans (g7 _ (by decide)).symm, g5.trans (g7 _ (by decide)).symm, g6.trans (g7 _ (by decide)).symm, fun k hk => ?_⟩
  rw [g7 _ (by omega), g7 _ (by omega), g7 _ (by omega), g7 _ (by omega)]
  exact gk k hk
theorem RNG_38 (hr : RNG m) (x : Int32) : RNG (upd m 38 x) := by
  have g7 : ∀ j, j ≠ 38 → upd m 38 x j = m j := fun j hj => upd_n hj
  obtain ⟨q0, q1, q2, q3, q4, q5, q6⟩ := hr
  unfold RNG
  rw [g7 32 (by decide), g7 33 (by decide), g7 34 (by decide), g7 35 (by decide), g7 36 (by decide), g7 37 (by decide)]
  refine ⟨q0, q1, q2, q3, q4, q5, fun k hk => ?_⟩
  rw [g7 _ (by omega), g7 _ (by omega), g7 _ (by omega)]
  exact q6 k hk
/-- the order drawn, with n keepers -/
def drO (n s : Int32) : Int32 := if n ≤ drw s (n + 2) then (if drw s (n + 2) = n then -1 else 10) else drw s (n + 2)
theorem drO_ORD (hr : RNG m) (s : Int32) : ORD m (drO (m 32) s) := by
  obtain ⟨c, -, hc8, ec⟩ := hr.1
  unfold drO
  have e2 : m 32 + 2 = nI (c + 2) := by rw [ec]; exact nI_add c 2
  obtain ⟨a, ha, e⟩ := drw_nI s (d := c + 2) (by omega) (by omega)
  rw [e2, e]
  by_cases h : m 32 ≤ nI a
  · rw [if_pos h]
    by_cases h2 : nI a = m 32
    · rw [if_pos h2]; exact Or.inl rfl
    · rw [if_neg h2]; exact Or.inr (Or.inl rfl)
  · rw [if_neg h]
    have h := i_nle h
    rw [ec, nI_t (by omega), nI_t (by omega)] at h
    exact Or.inr (Or.inr ⟨a, by omega, by rw [ec]; exact (nIlt (by omega) (by omega)).mpr (by omega), rfl⟩)
theorem drO7 (hs : st.1 = m 32) (hr : RNG m) (s : Int32) : zf_X7_drawnOrder st s = some (drO (m 32) (nxt s), nxt s) := by
  obtain ⟨c, -, hc8, ec⟩ := hr.1
  have e2 : m 32 + 2 = nI (c + 2) := by rw [ec]; exact nI_add c 2
  unfold zf_X7_drawnOrder zf_X7_orderCount zf_X7_drawnOrder_38
  rw [hs, Option.bind_some, if_neg (show ¬ m 32 + 2 ≤ 0 from fun q => by have := i_le.mp q; rw [e2, nI_t (by omega), show (0 : Int32).toInt = 0 from rfl] at this; omega), if_neg (show ¬ m 32 + 2 = 0 from fun q => by have := i_eq.mp q; rw [e2, nI_t (by omega), show (0 : Int32).toInt = 0 from rfl] at this; omega)]
  show (if m 32 ≤ drw (nxt s) (m 32 + 2) then (if drw (nxt s) (m 32 + 2) = m 32 then _ else _) else _) = _
  unfold drO
  by_cases h : m 32 ≤ drw (nxt s) (m 32 + 2)
  · rw [if_pos h, if_pos h]
    by_cases h2 : drw (nxt s) (m 32 + 2) = m 32
    · rw [if_pos h2, if_pos h2]; rfl
    · rw [if_neg h2, if_neg h2]; rfl
  · rw [if_neg h, if_neg h]; rfl
theorem draw8 (hr : RNG m) : zf_X8_draw (m 32 + 2) m = some (drw (nxt (m 38)) (m 32 + 2), upd m 38 (nxt (m 38))) := by
  obtain ⟨c, -, hc8, ec⟩ := hr.1
  have e2 : m 32 + 2 = nI (c + 2) := by rw [ec]; exact nI_add c 2
  unfold zf_X8_draw
  rw [if_neg (show ¬ m 32 + 2 = 0 from fun q => by have := i_eq.mp q; rw [e2, nI_t (by omega), show (0 : Int32).toInt = 0 from rfl] at this; omega), upd_s]
  rfl
theorem drawn_loop {c : Nat} (hc6 : c ≤ 60) : ∀ (r f i : Nat) (v : Int32) (te : TTe) (st : TSt) (m : Nat → Int32) (fl : Bool), i + r = c → r < f → RC te st m → RNG m → ∃ v' te' st' m' fl', zf_X7_drawn_21 f (nI c) v (nI i) te st rf (m 38) = some (v', te', st', rf, m' 38) ∧ zf_X8_drawn_23 f (nI c) v (nI i) rfd m fl = some (v', rfd, m', fl') ∧ RC te' st' m' ∧ RNG m' ∧ m' 32 = m 32 ∧ ∀ F, FBk F m → FBk (F + r) m'
  | _, 0, _, _, _, _, _, _, _, h, _, _ => absurd h (Nat.not_lt_zero _)
  | 0, f + 1, i, v, te, st, m, fl, h0, _, hc, hr => by
    have e : i = c := by omega
    subst e
    unfold zf_X7_drawn_21 zf_X8_drawn_23
    rw [if_pos (i_le.mpr (Int.le_refl _)), if_pos (i_le.mpr (Int.le_refl _))]
    exact ⟨v, te, st, m, fl, rfl, rfl, hc, hr, rfl, fun _ h => h⟩
  | r + 1, f + 1, i, v, te, st, m, fl, h0, hf, hc, hr => by
    have hn : ¬ nI c ≤ nI i := nle (by omega) (by omega)
    have hr2 := RNG_38 hr (nxt (m 38))
    have e32 : upd m 38 (nxt (m 38)) 32 = m 32 := upd_n (by decide)
    have ho := drO_ORD hr2 (nxt (m 38))
    rw [e32] at ho
    obtain ⟨te', st', μ', e1, e2, e3, e4, e5, e6, e7, e8⟩ := carry (RC_38 hc (nxt (m 38))) hr2 ho fl
    unfold zf_X7_drawn_21 zf_X8_drawn_23 zf_X8_many zf_X8_drawn_71
    rw [if_neg hn, if_neg hn, drO7 (RC_SM hc).1 hr, Option.bind_some, Option.bind_some, draw8 hr, Option.bind_some]
    dsimp only
    rw [Option.bind_some, Option.bind_some, e1, Option.bind_some, e32, nI_1]
    have fin : (if m 32 ≤ drw (nxt (m 38)) (m 32 + 2) then
        if drw (nxt (m 38)) (m 32 + 2) = m 32 then (zf_X8_step (-1) (upd m 38 (nxt (m 38))) fl).bind (fun u11 => zf_X8_drawn_23 f (nI c) (v + u11.1) (nI (i + 1)) rfd u11.2.1 u11.2.2)
        else (zf_X8_step 10 (upd m 38 (nxt (m 38))) fl).bind (fun u11 => zf_X8_drawn_23 f (nI c) (v + u11.1) (nI (i + 1)) rfd u11.2.1 u11.2.2)
        else (zf_X8_step (drw (nxt (m 38)) (m 32 + 2)) (upd m 38 (nxt (m 38))) fl).bind (fun u11 => zf_X8_drawn_23 f (nI c) (v + u11.1) (nI (i + 1)) rfd u11.2.1 u11.2.2)) = (zf_X8_step (drO (m 32) (nxt (m 38))) (upd m 38 (nxt (m 38))) fl).bind (fun u11 => zf_X8_drawn_23 f (nI c) (v + u11.1) (nI (i + 1)) rfd u11.2.1 u11.2.2) := by
      unfold drO
      by_cases h : m 32 ≤ drw (nxt (m 38)) (m 32 + 2)
      · rw [if_pos h, if_pos h]
        by_cases h2 : drw (nxt (m 38)) (m 32 + 2) = m 32
        · rw [if_pos h2, if_pos h2]
        · rw [if_neg h2, if_neg h2]
      · rw [if_neg h, if_neg h]
    rw [fin, e2, Option.bind_some]
    have es : nxt (m 38) = μ' 38 := by rw [e5, upd_s]
    obtain ⟨v', te'', st'', m'', fl'', k1, k2, k3, k4, k5, k6⟩ := drawn_loop hc6 r f (i + 1) (v + bI (sHm (upd m 38 (nxt (m 38))) (drO (m 32) (nxt (m 38))) (t5 (upd m 38 (nxt (m 38)))))) te' st' μ' (sFl (upd m 38 (nxt (m 38))) (drO (m 32) (nxt (m 38))) (t5 (upd m 38 (nxt (m 38))))) (by omega) (by omega) e3 e4
    rw [← es] at k1
    exact ⟨v', te'', st'', m'', fl'', k1, k2, k3, k4, k5.trans (e6.trans e32), fun F hF => (show F + 1 + r = F + (r + 1) by omega) ▸ k6 (F + 1) (e8 F (fun k hk => by rw [upd_n (by omega)]; exact hF k hk))⟩
theorem q_drawn (hc : RC te st m) (hr : RNG m) (hf : RF rf rfd) (x1 : Int32) (fl : Bool) {seed : Int32} (hsd : seed = m 38) : ∃ r1 r2, zf_X7_drawn x1 te st rf seed = some r1 ∧ zf_X8_drawn x1 rfd m fl = some r2 ∧ r1.1 = r2.1 ∧ (RC r1.2.1 r1.2.2.1 r2.2.2.1 ∧ RNG r2.2.2.1 ∧ r1.2.2.2.2 = r2.2.2.1 38) ∧ r2.2.2.1 32 = m 32 ∧ RF r1.2.2.2.1 r2.2.1 ∧ ∀ N, FB N m → FB (N + 1) r2.2.2.1 := by
  unfold zf_X7_drawn zf_X8_drawn
  rw [win7, win8 (a := 1) (b := 60) (by decide) (by decide), Option.bind_some, Option.bind_some]
  cases h1 : win x1 1 60
  · rw [r7_2, r8_2]
    exact ⟨_, _, rfl, rfl, rfl, ⟨hc, hr, hsd⟩, rfl, rf_2 hf, fun _ h => FB_up h⟩
  · have hx := win_iff.mp h1
    rw [show (1 : Int32).toInt = 1 from rfl, show (60 : Int32).toInt = 60 from rfl] at hx
    have ex : x1 = nI x1.toInt.toNat := i_eq.mpr (by rw [nI_t (by omega)]; omega)
    obtain ⟨v', te', st', m', fl', k1, k2, k3, k4, k5, k6⟩ := drawn_loop (rf := rf) (rfd := rfd) (c := x1.toInt.toNat) (by omega) x1.toInt.toNat FU 0 0 te st m fl (by omega) (by show _ < 2000; omega) hc hr
    rw [← ex] at k1 k2
    rw [hsd, if_pos rfl, if_pos rfl]
    exact ⟨_, _, k1, k2, rfl, ⟨k3, k4, rfl⟩, k5, hf, fun N h => FBk_N (k6 (60 * N) h) (by omega)⟩
theorem pl_drawn : PL_drawn := by
  intro σ μ x1 N hN hrel
  obtain ⟨hc, hk, hf, hs, ht, ha, hwd⟩ := hrel
  obtain ⟨r1, r2, h1, h2, h3, h4, h5, h6, h7⟩ := q_drawn hc.1 hc.2.1 hf x1 μ.2.2.2.2.2.2.2.2.2.2.2.1 hc.2.2
  exact ⟨r1, r2, h1, h2, h3, h4, hk, h6, RS_eq hs h5, ht, ha, upF (h7 _) hwd⟩
