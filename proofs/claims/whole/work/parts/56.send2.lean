variable {te : TTe} {st : TSt} {m : Nat → Int32} {n : Int32} {sh : TSh} {rf rfd ho sz mi : Nat → Int32} {el : Nat → Int64}
theorem send_loop (hc : RC te st m) (hr : RNG m) {F : Nat → Bool} {fg ft pl : Nat → Int32} (hfg : ∀ p, p < 100 → fg p = bI (F p)) (hft : ∀ p, p < 100 → ft p = bI (F p)) {ta : TTy} {K : Nat} (hK : K = 100) (hA : ta.1 = tC F K) (hA1 : ¬ ta.1 ≤ 1) {c : Nat} (hc8 : c ≤ 8) (ec : m 32 = nI c) (fl : Bool) : ∀ (r f i : Nat) (v4 v5 w6 : Int32) (tr : TTe) (μ : Nat → Int32), i + r = c → r < f → (∀ p, p ≠ 33 → μ p = m p) → (v5 = w6 ∨ (v5 = 1000000 ∧ w6 = 101)) → ∃ v tr', zf_X7_send_46 te st sh f v4 v5 (nI i) tr ta pl fg rf = some (v, tr', ta, pl, fg, rf) ∧ zf_X8_send_54 ho sz el f ta.1 v4 w6 (m 33) (nI i) rfd μ mi fl ft = some (v, rfd, m, mi, fl, ft)
  | _, 0, _, _, _, _, _, _, _, h, _, _ => absurd h (Nat.not_lt_zero _)
  | 0, f + 1, i, v4, v5, w6, tr, μ, h0, _, hM, he => by
    have e : i = c := by omega
    subst e
    have e32 : μ 32 = m 32 := hM 32 (by decide)
    unfold zf_X7_send_46 zf_X8_send_54 zf_X8_many zf_X8_send_169
    rw [(RC_SM hc).1, e32, ec, Option.bind_some, if_pos (i_le.mpr (Int.le_refl _)), if_pos (i_le.mpr (Int.le_refl _)), MSt_33 hM, upd_self]
    exact ⟨_, _, rfl, rfl⟩
  | r + 1, f + 1, i, v4, v5, w6, tr, μ, h0, hf, hM, he => by
    have e32 : μ 32 = m 32 := hM 32 (by decide)
    have hk : nI i < m 32 := by rw [ec]; exact (nIlt (by omega) (by omega)).mpr (by omega)
    have hn : ¬ m 32 ≤ nI i := fun z => by have := i_lt.mp hk; have := i_le.mp z; omega
    obtain ⟨tr', k1⟩ := most7_loop (RC_SM hc) hr.1 (show i < 8 by omega) hk te tr.2.2.2.2.2.1 tr.2.2.2.2.2.2 hfg ta hK K FU 0 (t5 m).1 (by omega) (by show K < 2000; omega)
    rw [show te5 ((t5 m).1, (t5 m).2) tr.2.2.2.2.2.1 tr.2.2.2.2.2.2 = bk tr te from (bk_te hc tr).symm] at k1
    have k1' : zf_X7_mostLeftBy (nI i) te tr st ta fg = some (mL ta.1 (sC m F i K), tr') := k1
    obtain ⟨μ', hM', k2⟩ := most8_loop (ho := ho) (sz := sz) (el := el) (rfd := rfd) (mi := mi) (zf_X8_send_54 ho sz el f) (show i < 8 by omega) hft ta.1 v4 w6 (m 33) fl hK K FU 0 μ (by omega) (by show K < 2000; omega) hM
    have k2' : zf_X8_send_75 ho sz el (zf_X8_send_54 ho sz el f) FU ta.1 v4 w6 (m 33) (nI i) 0 0 rfd μ mi fl ft = _ := k2
    have hb : (mL ta.1 (sC m F i K)).toInt ≤ 100 := mL_le (K := K) (by omega) (hA ▸ tC_rng F K) (sC_rng F i K)
    unfold zf_X7_send_46 zf_X7_send_81
    conv => enter [1, v, 1, tr', 2]; unfold zf_X8_send_54
    unfold zf_X8_many
    rw [(RC_SM hc).1, e32, Option.bind_some, if_neg hn, if_neg hn, if_neg hA1, k1', k2', Option.bind_some, nI_1]
    dsimp only
    generalize mL ta.1 (sC m F i K) = A at hb
    rcases he with he | ⟨e1, e2⟩
    · subst he
      by_cases y : v5 ≤ A
      · have e6 : (if v5 < A then v5 else A) = v5 := by
          by_cases z : v5 < A
          · rw [if_pos z]
          · rw [if_neg z]; exact i_eq.mpr (by have := i_le.mp y; have := i_nlt z; omega)
        rw [if_pos y, if_pos y, e6]
        exact send_loop hc hr hfg hft hK hA hA1 hc8 ec fl r f (i + 1) _ _ _ _ _ (by omega) (by omega) hM' (Or.inl rfl)
      · have e6 : (if v5 < A then v5 else A) = A := if_neg (fun z => y (i_le.mpr (by have := i_lt.mp z; omega)))
        rw [if_neg y, if_neg y, e6]
        exact send_loop hc hr hfg hft hK hA hA1 hc8 ec fl r f (i + 1) _ _ _ _ _ (by omega) (by omega) hM' (Or.inl rfl)
    · subst e1 e2
      have y1 : ¬ (1000000 : Int32) ≤ A := fun y => by have := i_le.mp y; rw [show (1000000 : Int32).toInt = 1000000 from rfl] at this; omega
      have y2 : ¬ (101 : Int32) ≤ A := fun y => by have := i_le.mp y; rw [show (101 : Int32).toInt = 101 from rfl] at this; omega
      have e6 : (if (101 : Int32) < A then (101 : Int32) else A) = A := if_neg (fun z => by have := i_lt.mp z; rw [show (101 : Int32).toInt = 101 from rfl] at this; omega)
      rw [if_neg y1, if_neg y2, e6]
      exact send_loop hc hr hfg hft hK hA hA1 hc8 ec fl r f (i + 1) _ _ _ _ _ (by omega) (by omega) hM' (Or.inl rfl)
theorem q_send {tr : TTe} {ta : TTy} {pl fg ft : Nat → Int32} {fl : Bool} (hc : RC te st m) (hr : RNG m) (hf : RF rf rfd) (hs : RS (m 32) sh ho sz el) (x1 x2 : Int32) : ∃ r1 r2, zf_X7_send x1 x2 te tr st sh ta pl fg rf = some r1 ∧ zf_X8_send x1 x2 rfd m mi fl ho sz el ft = some r2 ∧ r1.1 = r2.1 ∧ r2.2.2.1 = m ∧ RF r1.2.2.2.2.2 r2.2.1 := by
  unfold zf_X7_send zf_X8_send
  rcases twos_both hs (RC_SM hc).1 hr.1 x1 x2 true pl with ⟨e, hFE, k1, k2⟩ | ⟨j, c, pl', hj, hcc, rfl, rfl, hw, k1, k2, k3, k4⟩
  · obtain ⟨a, b, j1, j2, j3⟩ := refB hf hFE
    rw [k1, k2, Option.bind_some, Option.bind_some, if_neg (FE0 hFE), if_neg (FEn hFE), j1, j2]
    exact ⟨_, _, rfl, rfl, rfl, rfl, j3⟩
  · obtain ⟨hO, hT⟩ := TWs hr.1 k3
    obtain ⟨K, hK⟩ : ∃ K : Nat, K = 100 := ⟨100, rfl⟩
    obtain ⟨tr', fg', e1, e5⟩ := tally_loop hc hr hK hcc hO hT k4 rfl K FU 0 tr fg (by omega) (by show K < 2000; omega) (fun p hp => absurd hp (Nat.not_lt_zero _))
    obtain ⟨mi', fl', ft', e2, e3⟩ := fill8 (q := 33) (L := 99) (by decide) (by decide) (by decide) (fun i hi => RNG33 hr hi) hj hcc hO hT mi fl ft
    have e1' : zf_X7_tallyRages (nI c) te tr st ta pl' fg = _ := e1
    have e2' : zf_X8_fillFit (nI j) (nI c) 33 99 m mi fl el ft = _ := e2
    have e4 := ofFit8 _ e3 0
    rw [← hK, if_pos rfl] at e4
    rw [k1, Option.bind_some, if_pos rfl, e1', Option.bind_some, k2, Option.bind_some, if_pos le01, e2', Option.bind_some]
    dsimp only
    rw [e4, Option.bind_some]
    obtain ⟨q, -, hq8, ec⟩ := hr.1
    obtain ⟨a, -, ha, ea⟩ := tC_rng (ffF m (twO el j) (twW el j) c 33 99) K
    by_cases z : 2 ≤ a
    · have h1 : (2 : Int32) ≤ tC (ffF m (twO el j) (twW el j) c 33 99) K := by rw [ea]; exact (nIle (a := 2) (by decide) (by omega)).mpr z
      have h2 : ¬ tC (ffF m (twO el j) (twW el j) c 33 99) K ≤ 1 := fun y => by have := i_le.mp y; have := i_le.mp h1; rw [show (1 : Int32).toInt = 1 from rfl] at *; rw [show (2 : Int32).toInt = 2 from rfl] at this; omega
      obtain ⟨v, tr2, f1, f2⟩ := send_loop (sh := sh) (rf := rf) (rfd := rfd) (ho := ho) (sz := sz) (el := el) (mi := mi') (pl := pl') (ta := (tC (ffF m (twO el j) (twW el j) c 33 99) K, tF (ffF m (twO el j) (twW el j) c 33 99) K, tL (ffF m (twO el j) (twW el j) c 33 99) K)) hc hr e5 e3 hK rfl h2 hq8 ec fl' q FU 0 (-1) 1000000 101 tr' m (by omega) (by show q < 2000; omega) (fun _ _ => rfl) (Or.inr ⟨rfl, rfl⟩)
      rw [if_pos h1]
      exact ⟨_, _, f1, f2, rfl, rfl, hf⟩
    · have h1 : ¬ (2 : Int32) ≤ tC (ffF m (twO el j) (twW el j) c 33 99) K := fun y => by rw [ea] at y; have := (nIle (a := 2) (by decide) (by omega)).mp y; omega
      have h2 : tC (ffF m (twO el j) (twW el j) c 33 99) K ≤ 1 := by rw [ea]; exact (nIle (b := 1) (by omega) (by decide)).mpr (by omega)
      have f2 : zf_X8_send_54 ho sz el FU (tC (ffF m (twO el j) (twW el j) c 33 99) K) (-1) 101 (m 33) 0 rfd m mi' fl' ft' = some (-1, rfd, m, mi', fl', ft') := by
        show zf_X8_send_54 ho sz el (1999 + 1) (tC (ffF m (twO el j) (twW el j) c 33 99) K) (-1) 101 (m 33) 0 rfd m mi' fl' ft' = _
        unfold zf_X8_send_54 zf_X8_many zf_X8_send_169
        rw [Option.bind_some, if_pos h2, upd_self]
        split <;> rfl
      rw [if_neg h1, f2]
      exact ⟨_, _, rfl, rfl, rfl, rfl, hf⟩
theorem pl_send : PL_send := by
  intro σ μ x1 x2 N hN hrel
  obtain ⟨hc, hk, hf, hs, ht, ha, hwd⟩ := hrel
  obtain ⟨r1, r2, h1, h2, h3, h4, h5⟩ := q_send (tr := σ.2.1) (ta := σ.2.2.2.2.2.2.2.2.2.2.2.1) (pl := σ.2.2.2.2.2.2.2.2.2.2.2.2.1) (fg := σ.2.2.2.2.2.2.2.2.2.2.2.2.2.1) (mi := μ.2.2.2.1) (fl := μ.2.2.2.2.2.2.2.2.2.2.2.1) (ft := μ.2.2.2.2.2.2.2.2.2.2.2.2.2.2.2.2.2.2.2.2.2.2.2.1) hc.1 hc.2.1 hf hs x1 x2
  exact ⟨r1, r2, h1, h2, h3, eqc h4 hc, hk, h5, eqs h4 hs, ht, ha, upE h4 hwd⟩
