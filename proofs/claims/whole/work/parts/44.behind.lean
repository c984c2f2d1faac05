/-! pure rows: done, behind, unkept, way -/
variable {te : TTe} {st : TSt} {m : Nat → Int32} {n : Int32} {sh : TSh} {rf rfd ho sz mi : Nat → Int32} {el : Nat → Int64}
theorem le01 : (0 : Int32) ≤ 1 := by decide
theorem keep0 (m mi : Nat → Int32) : zf_X8_keep 0 m mi = some (kp 0 m mi) := keepk m mi (d := 0) (by decide)
theorem lay0 {t : T5} {μ : Nat → Int32} (h : MSt m t μ) (mi : Nat → Int32) : zf_X8_lay 0 μ (kp 0 m mi) = some m := lay_keep (f := mi) (d := 0) (by decide) (fun j hj => h.2.2.2.2.2.2.2.2 j hj) (fun j hj => kp_at 0 m mi j hj)
theorem eqc {x : Nat → Int32} {s : Int32} (h : x = m) (hc : RC te st m ∧ RNG m ∧ s = m 38) : RC te st x ∧ RNG x ∧ s = x 38 := h ▸ hc
theorem eqs {x : Nat → Int32} (h : x = m) (hs : RS (m 32) sh ho sz el) : RS (x 32) sh ho sz el := h ▸ hs
theorem done_loop (pl ros : Nat → Int32) (n0 : Int32) {c : Nat} (hc : c ≤ 40) (ho : ∀ i, i < c → pl i = ros i ∧ (ros i = -1 ∨ ros i = 10 ∨ ∃ k : Nat, k < 8 ∧ nI k < n0 ∧ ros i = nI k)) : ∀ (r f i : Nat) (v : Int32) (te : TTe) (st : TSt) (m : Nat → Int32) (fl : Bool) (fls ff : Int32), i + r = c → r < f → RC te st m → RNG m → m 32 = n0 → ∃ v' te' st' m' fl' fls' ff', zf_X7_done_24 sh f (nI c) v (nI i) te st pl rf = some (v', te', st', pl, rf) ∧ zf_X8_go_14 ros f (nI c) v (nI i) m fl fls ff = some (v', m', fl', fls', ff') ∧ RC te' st' m' ∧ RNG m' ∧ m' 38 = m 38 ∧ m' 32 = m 32 ∧ ∀ F, FBk F m → FBk (F + r) m'
  | _, 0, _, _, _, _, _, _, _, _, _, h, _, _, _ => absurd h (Nat.not_lt_zero _)
  | 0, f + 1, i, v, te, st, m, fl, fls, ff, h0, _, hcc, hr, hn => by
    have e : i = c := by omega
    subst e
    unfold zf_X7_done_24 zf_X8_go_14
    rw [if_pos (i_le.mpr (Int.le_refl _)), if_pos (i_le.mpr (Int.le_refl _))]
    exact ⟨v, te, st, m, fl, fls, ff, rfl, rfl, hcc, hr, rfl, rfl, fun _ h => h⟩
  | r + 1, f + 1, i, v, te, st, m, fl, fls, ff, h0, hf, hcc, hr, hn => by
    have hq : ¬ nI c ≤ nI i := nle (by omega) (by omega)
    have hq2 : ¬ (48 : Int32) ≤ nI i := nle (a := 48) (by omega) (by decide)
    have hO : ORD m (ros i) := by
      unfold ORD
      rw [hn]
      exact (ho i (by omega)).2
    obtain ⟨te', st', μ', e1, e2, e3, e4, e5, e6, -, e8⟩ := carry hcc hr hO fl
    rw [go_s ros f hc (by omega) _ _ _ _ _ e2]
    unfold zf_X7_done_24
    rw [if_neg hq, if_neg hq2, if_pos (ix_nI (by omega) (by decide)), cl_nI (by omega), (ho i (by omega)).1, e1, Option.bind_some, nI_1]
    obtain ⟨v', te'', st'', m'', fl'', fls'', ff'', k1, k2, k3, k4, k5, k6, k7⟩ := done_loop pl ros n0 hc ho r f (i + 1) (v + bI (sHm m (ros i) (t5 m))) te' st' μ' _ _ _ (by omega) (by omega) e3 e4 (e6.trans hn)
    exact ⟨v', te'', st'', m'', fl'', fls'', ff'', k1, k2, k3, k4, k5.trans e5, k6.trans e6, fun F hF => (show F + 1 + r = F + (r + 1) by omega) ▸ k7 (F + 1) (e8 F hF)⟩
theorem q_done {pl ros : Nat → Int32} {fl : Bool} {fls ff : Int32} (hc : RC te st m) (hr : RNG m) (hf : RF rf rfd) (hs : RS (m 32) sh ho sz el) (x1 x2 : Int32) : ∃ r1 r2, zf_X7_done x1 x2 te st sh pl rf = some r1 ∧ zf_X8_done x1 x2 rfd m fl ho sz el ros fls ff = some r2 ∧ r1.1 = r2.1 ∧ RC r1.2.1 r1.2.2.1 r2.2.2.1 ∧ RNG r2.2.2.1 ∧ r2.2.2.1 38 = m 38 ∧ r2.2.2.1 32 = m 32 ∧ RF r1.2.2.2.2 r2.2.1 ∧ ∀ N, FB N m → FB (N + 1) r2.2.2.1 := by
  unfold zf_X7_done zf_X8_done
  rcases load_both hs (RC_SM hc).1 hr.1 x1 x2 true pl ros with ⟨e, ros', hFE, k1, k2⟩ | ⟨c, pl', ros', hcc, rfl, -, k1, k2, k3⟩
  · obtain ⟨a, b, j1, j2, j3⟩ := refB hf hFE
    rw [k1, k2, Option.bind_some, Option.bind_some, if_neg (FE0 hFE), if_neg (FEn hFE), j1, j2]
    exact ⟨_, _, rfl, rfl, rfl, hc, hr, rfl, rfl, j3, fun _ h => FB_up h⟩
  · rw [k1, k2, Option.bind_some, Option.bind_some, if_pos rfl, if_pos (show (0 : Int32) ≤ ((1 : Int32), ros').1 from le01)]
    unfold zf_X8_go
    obtain ⟨v', te', st', m', fl', fls', ff', e1, e2, e3, e4, e5, e6, e7⟩ := done_loop (sh := sh) (rf := rf) pl' ros' (m 32) hcc (fun i hi => k3 i hi) c FU 0 0 te st m fl 0 (-1) (by omega) (by show c < 2000; omega) hc hr rfl
    rw [show (0 : Int32) = nI 0 from rfl] at e1 e2 ⊢
    rw [e1, e2]
    exact ⟨_, _, rfl, rfl, rfl, e3, e4, e5, e6, hf, fun N h => FBk_N (e7 (60 * N) h) (by omega)⟩
theorem pl_done : PL_done := by
  intro σ μ x1 x2 N hN hrel
  obtain ⟨hc, hk, hf, hs, ht, ha, hwd⟩ := hrel
  obtain ⟨r1, r2, h1, h2, h3, h4, h5, h6, h7, h8, h9⟩ := q_done (pl := σ.2.2.2.2.2.2.2.2.2.2.2.2.1) (ros := μ.2.2.2.2.2.2.2.2.2.2.2.2.2.2.2.2.2.1) (fl := μ.2.2.2.2.2.2.2.2.2.2.2.1) (fls := μ.2.2.2.2.2.2.2.2.2.2.2.2.2.2.2.2.2.2.1) (ff := μ.2.2.2.2.2.2.2.2.2.2.2.2.2.2.2.2.2.2.2.1) hc.1 hc.2.1 hf hs x1 x2
  exact ⟨r1, r2, h1, h2, h3, ⟨h4, h5, hc.2.2.trans h6.symm⟩, hk, h8, RS_eq hs h7, ht, ha, upF (h9 _) hwd⟩
theorem q_unkept {wa : TWa} {pl ros : Nat → Int32} {fl : Bool} {fls ff : Int32} (hc : RC te st m) (hr : RNG m) (hf : RF rf rfd) (hs : RS (m 32) sh ho sz el) (x1 x2 : Int32) : ∃ r1 r2, zf_X7_unkept x1 x2 te st sh wa pl rf = some r1 ∧ zf_X8_unkept x1 x2 rfd m mi fl ho sz el ros fls ff = some r2 ∧ r1.1 = r2.1 ∧ r2.2.2.1 = m ∧ RF r1.2.2.2 r2.2.1 := by
  unfold zf_X7_unkept zf_X8_unkept
  rcases load_both hs (RC_SM hc).1 hr.1 x1 x2 true pl ros with ⟨e, ros', hFE, k1, k2⟩ | ⟨c, pl', ros', hcc, rfl, -, k1, k2, k3⟩
  · obtain ⟨a, b, j1, j2, j3⟩ := refB hf hFE
    rw [k1, k2, Option.bind_some, Option.bind_some, if_neg (FE0 hFE), if_neg (FEn hFE), j1, j2]
    exact ⟨_, _, rfl, rfl, rfl, rfl, j3⟩
  · rw [k1, k2, Option.bind_some, Option.bind_some, if_pos rfl, if_pos (show (0 : Int32) ≤ ((1 : Int32), ros').1 from le01)]
    obtain ⟨b', f', e1⟩ := along7 hc hr wa pl' ros' (c := c) (by omega) k3
    obtain ⟨μ', fl', e2, e3⟩ := go8 (RNG_TR hr) ros' hcc (fun i hi => (k3 i hi).2) fl fls ff
    rw [e1, keep0, Option.bind_some, Option.bind_some, e2, Option.bind_some, lay0 e3]
    exact ⟨_, _, rfl, rfl, rfl, rfl, hf⟩
theorem pl_unkept : PL_unkept := by
  intro σ μ x1 x2 N hN hrel
  obtain ⟨hc, hk, hf, hs, ht, ha, hwd⟩ := hrel
  obtain ⟨r1, r2, h1, h2, h3, h4, h5⟩ := q_unkept (wa := σ.2.2.2.2.2.2.2.2.2.1) (pl := σ.2.2.2.2.2.2.2.2.2.2.2.2.1) (mi := μ.2.2.2.1) (ros := μ.2.2.2.2.2.2.2.2.2.2.2.2.2.2.2.2.2.1) (fl := μ.2.2.2.2.2.2.2.2.2.2.2.1) (fls := μ.2.2.2.2.2.2.2.2.2.2.2.2.2.2.2.2.2.2.1) (ff := μ.2.2.2.2.2.2.2.2.2.2.2.2.2.2.2.2.2.2.2.1) hc.1 hc.2.1 hf hs x1 x2
  exact ⟨r1, r2, h1, h2, h3, eqc h4 hc, hk, h5, eqs h4 hs, ht, ha, upE h4 hwd⟩
theorem q_behind {wa : TWa} {pl ros : Nat → Int32} {fl : Bool} {fls ff : Int32} (hc : RC te st m) (hr : RNG m) (hf : RF rf rfd) (hs : RS (m 32) sh ho sz el) (x1 x2 x3 : Int32) : ∃ r1 r2, zf_X7_behind x1 x2 x3 te st sh wa pl rf = some r1 ∧ zf_X8_behind x1 x2 x3 rfd m mi fl ho sz el ros fls ff = some r2 ∧ r1.1 = r2.1 ∧ r2.2.2.1 = m ∧ RF r1.2.2.2 r2.2.1 := by
  unfold zf_X7_behind zf_X8_behind zf_X8_behind_72
  rw [win7, win8 (a := 0) (b := 4) (by decide) (by decide), Option.bind_some, Option.bind_some]
  rcases load_both hs (RC_SM hc).1 hr.1 x1 x2 (win x3 0 4) pl ros with ⟨e, ros', hFE, k1, k2⟩ | ⟨c, pl', ros', hcc, rfl, hw, k1, k2, k3⟩
  · obtain ⟨a, b, j1, j2, j3⟩ := refB hf hFE
    rw [k1, k2, Option.bind_some, Option.bind_some, if_neg (FE0 hFE), if_neg (FEn hFE), j1, j2]
    exact ⟨_, _, rfl, rfl, rfl, rfl, j3⟩
  · rw [k1, k2, Option.bind_some, Option.bind_some, if_pos rfl, if_pos (show (0 : Int32) ≤ ((1 : Int32), ros').1 from le01)]
    obtain ⟨b', f', e1⟩ := along7 hc hr wa pl' ros' (c := c) (by omega) k3
    obtain ⟨μ', fl', e2, e3⟩ := go8 (RNG_TR hr) ros' hcc (fun i hi => (k3 i hi).2) fl fls ff
    rw [e1, keep0, Option.bind_some, Option.bind_some]
    dsimp only
    rw [e2, Option.bind_some]
    dsimp only
    rw [lay0 e3, Option.bind_some, Option.bind_some, Option.bind_some]
    obtain ⟨i, hi, rfl⟩ := win_nI (B := 4) (by decide) hw
    have hi : i = 0 ∨ i = 1 ∨ i = 2 ∨ i = 3 ∨ i = 4 := by omega
    rcases hi with rfl | rfl | rfl | rfl | rfl
    · exact ⟨_, _, rfl, rfl, e3.2.2.1.symm, rfl, hf⟩
    · exact ⟨_, _, rfl, rfl, e3.2.2.2.1.symm, rfl, hf⟩
    · exact ⟨_, _, rfl, rfl, e3.2.2.2.2.1.symm, rfl, hf⟩
    · exact ⟨_, _, rfl, rfl, rfl, rfl, hf⟩
    · exact ⟨_, _, rfl, rfl, rfl, rfl, hf⟩
theorem pl_behind : PL_behind := by
  intro σ μ x1 x2 x3 N hN hrel
  obtain ⟨hc, hk, hf, hs, ht, ha, hwd⟩ := hrel
  obtain ⟨r1, r2, h1, h2, h3, h4, h5⟩ := q_behind (wa := σ.2.2.2.2.2.2.2.2.2.1) (pl := σ.2.2.2.2.2.2.2.2.2.2.2.2.1) (mi := μ.2.2.2.1) (ros := μ.2.2.2.2.2.2.2.2.2.2.2.2.2.2.2.2.2.1) (fl := μ.2.2.2.2.2.2.2.2.2.2.2.1) (fls := μ.2.2.2.2.2.2.2.2.2.2.2.2.2.2.2.2.2.2.1) (ff := μ.2.2.2.2.2.2.2.2.2.2.2.2.2.2.2.2.2.2.2.1) hc.1 hc.2.1 hf hs x1 x2 x3
  exact ⟨r1, r2, h1, h2, h3, eqc h4 hc, hk, h5, eqs h4 hs, ht, ha, upE h4 hwd⟩
theorem way_loop (ht : TR (t5 m)) (ros : Nat → Int32) (x3 : Int32) {c : Nat} (hc : c ≤ 40) (hor : ∀ i, i < c → ORD m (ros i)) : ∀ (r f i : Nat) (μ : Nat → Int32) (fl : Bool), i + r = c → r < f → MSt m (wT m ros (t5 m) i) μ → ∃ fl', zf_X8_way_58 ho sz el f (nI c) x3 (wHR m ros (t5 m) i) (wLC m ros (t5 m) i) (wHH m ros (t5 m) i) (nI i) rfd μ (kp 0 m mi) fl ros = some (if x3 = 0 then wHR m ros (t5 m) c else if x3 = 1 then wLC m ros (t5 m) c else wHH m ros (t5 m) c, rfd, m, kp 0 m mi, fl', ros)
  | _, 0, _, _, _, _, h, _ => absurd h (Nat.not_lt_zero _)
  | 0, f + 1, i, μ, fl, h0, _, hM => by
    have e : i = c := by omega
    subst e
    unfold zf_X8_way_58
    rw [if_pos (i_le.mpr (Int.le_refl _)), lay0 hM, Option.bind_some]
    refine ⟨fl, ?_⟩
    by_cases e : x3 = 0
    · rw [if_pos e, if_pos e]
    · rw [if_neg e, if_neg e]
      by_cases e : x3 = 1
      · rw [if_pos e, if_pos e]
      · rw [if_neg e, if_neg e]
  | r + 1, f + 1, i, μ, fl, h0, hf, hM => by
    have hq : ¬ nI c ≤ nI i := nle (by omega) (by omega)
    obtain ⟨μ', s1, s2, -⟩ := step8 hM (TR_w ht i) (hor i (by omega)) fl
    unfold zf_X8_way_58 zf_X8_way_97
    rw [if_neg hq, if_pos (ix_nI (by omega) (by decide)), cl_nI (by omega), s1, Option.bind_some]
    dsimp only
    have s33 : μ' 33 = (wT m ros (t5 m) (i + 1)).1 := s2.2.2.1
    have s34 : μ' 34 = (wT m ros (t5 m) (i + 1)).2.1 := s2.2.2.2.1
    rw [nI_1]
    have a1 : ∀ [inst : Decidable (μ' 33 < wHR m ros (t5 m) i)], (if μ' 33 < wHR m ros (t5 m) i then wHR m ros (t5 m) i else μ' 33) = wHR m ros (t5 m) (i + 1) := by
      intro inst
      conv => rhs; unfold wHR
      by_cases y : (wT m ros (t5 m) (i + 1)).1 ≤ wHR m ros (t5 m) i
      · rw [if_pos y]
        by_cases z : μ' 33 < wHR m ros (t5 m) i
        · rw [if_pos z]
        · rw [if_neg z]
          rw [← s33] at y
          exact i_eq.mpr (by have := i_le.mp y; have := i_nlt z; omega)
      · rw [if_neg y, if_neg (show ¬ μ' 33 < wHR m ros (t5 m) i from fun z => y (i_le.mpr (by have := i_lt.mp z; rw [s33] at this; omega)))]
        exact s33
    have a2 : ∀ [inst : Decidable (wLC m ros (t5 m) i < μ' 34)], (if wLC m ros (t5 m) i < μ' 34 then wLC m ros (t5 m) i else μ' 34) = wLC m ros (t5 m) (i + 1) := by
      intro inst
      conv => rhs; unfold wLC
      rw [← s34]
      by_cases y : μ' 34 < wLC m ros (t5 m) i
      · rw [if_pos y, if_neg (show ¬ wLC m ros (t5 m) i < μ' 34 from fun z => by have := i_lt.mp y; have := i_lt.mp z; omega)]
      · rw [if_neg y]
        by_cases z : wLC m ros (t5 m) i < μ' 34
        · rw [if_pos z]
        · rw [if_neg z]
          exact i_eq.mpr (by have := i_nlt y; have := i_nlt z; omega)
    obtain ⟨fl', k⟩ := way_loop ht ros x3 hc hor r f (i + 1) μ' (sFl m (ros i) (wT m ros (t5 m) i)) (by omega) (by omega) s2
    refine ⟨fl', ?_⟩
    rw [← k, a1, a2]
    conv => rhs; rw [show wHH m ros (t5 m) (i + 1) = if (wT m ros (t5 m) (i + 1)).1 ≤ wHR m ros (t5 m) i then wHH m ros (t5 m) i else nI (i + 1) from rfl]
    by_cases y : (wT m ros (t5 m) (i + 1)).1 ≤ wHR m ros (t5 m) i
    · rw [if_pos y, if_pos (show μ' 33 ≤ wHR m ros (t5 m) i from s33.symm ▸ y)]
    · rw [if_neg y, if_neg (show ¬ μ' 33 ≤ wHR m ros (t5 m) i from s33.symm ▸ y)]
theorem q_way {wa : TWa} {pl ros : Nat → Int32} {fl : Bool} (hc : RC te st m) (hr : RNG m) (hf : RF rf rfd) (hs : RS (m 32) sh ho sz el) (x1 x2 x3 : Int32) : ∃ r1 r2, zf_X7_way x1 x2 x3 te st sh wa pl rf = some r1 ∧ zf_X8_way x1 x2 x3 rfd m mi fl ho sz el ros = some r2 ∧ r1.1 = r2.1 ∧ r2.2.2.1 = m ∧ RF r1.2.2.2 r2.2.1 := by
  unfold zf_X7_way zf_X8_way
  rw [win7, win8 (a := 0) (b := 2) (by decide) (by decide), Option.bind_some, Option.bind_some]
  rcases load_both hs (RC_SM hc).1 hr.1 x1 x2 (win x3 0 2) pl ros with ⟨e, ros', hFE, k1, k2⟩ | ⟨c, pl', ros', hcc, rfl, hw, k1, k2, k3⟩
  · obtain ⟨a, b, j1, j2, j3⟩ := refB hf hFE
    rw [k1, k2, Option.bind_some, Option.bind_some, if_neg (FE0 hFE), if_neg (FEn hFE), j1, j2]
    exact ⟨_, _, rfl, rfl, rfl, rfl, j3⟩
  · rw [k1, k2, Option.bind_some, Option.bind_some, if_pos rfl, if_pos (show (0 : Int32) ≤ ((1 : Int32), ros').1 from le01)]
    obtain ⟨b', f', e1⟩ := along7 hc hr wa pl' ros' (c := c) (by omega) k3
    obtain ⟨fl', e2⟩ := way_loop (rfd := rfd) (ho := ho) (sz := sz) (el := el) (mi := mi) (RNG_TR hr) ros' x3 hcc (fun i hi => (k3 i hi).2) c FU 0 m fl (by omega) (by show c < 2000; omega) (MSt_self m)
    rw [e1, keep0, Option.bind_some, Option.bind_some]
    have e3 : zf_X8_way_58 ho sz el FU (nI c) x3 (m 33) (m 34) 0 0 rfd m (kp 0 m mi) fl ros' = _ := e2
    rw [e3]
    dsimp only
    obtain ⟨i, hi, rfl⟩ := win_nI (B := 2) (by decide) hw
    have hi : i = 0 ∨ i = 1 ∨ i = 2 := by omega
    rcases hi with rfl | rfl | rfl
    · exact ⟨_, _, rfl, rfl, rfl, rfl, hf⟩
    · exact ⟨_, _, rfl, rfl, rfl, rfl, hf⟩
    · exact ⟨_, _, rfl, rfl, rfl, rfl, hf⟩
theorem pl_way : PL_way := by
  intro σ μ x1 x2 x3 N hN hrel
  obtain ⟨hc, hk, hf, hs, ht, ha, hwd⟩ := hrel
  obtain ⟨r1, r2, h1, h2, h3, h4, h5⟩ := q_way (wa := σ.2.2.2.2.2.2.2.2.2.1) (pl := σ.2.2.2.2.2.2.2.2.2.2.2.2.1) (mi := μ.2.2.2.1) (ros := μ.2.2.2.2.2.2.2.2.2.2.2.2.2.2.2.2.2.1) (fl := μ.2.2.2.2.2.2.2.2.2.2.2.1) hc.1 hc.2.1 hf hs x1 x2 x3
  exact ⟨r1, r2, h1, h2, h3, eqc h4 hc, hk, h5, eqs h4 hs, ht, ha, upE h4 hwd⟩
