variable {te : TTe} {st : TSt} {m : Nat → Int32} {n : Int32} {sh : TSh} {rf rfd ho sz mi : Nat → Int32} {el : Nat → Int64}
theorem fill8 {q L : Nat} (hq : q < 39) (hq2 : q ≠ 32) (hL : L ≤ 99) (hR : ∀ i, i ≤ L → RNG (upd m q (nI i))) {j c : Nat} (hj : j < 8) (hc : c ≤ 20) (hO : ∀ i, i < c → ORD m (twO el j i)) (hT : ∀ i, i < c → (el (40 * j + (2 * i + 1)) = 0 ∨ el (40 * j + (2 * i + 1)) = 1)) (mi : Nat → Int32) (fl : Bool) (ft : Nat → Int32) : ∃ mi' fl' ft', zf_X8_fillFit (nI j) (nI c) (nI q) (nI L) m mi fl el ft = some (m, mi', fl', ft') ∧ ∀ p, p < 100 → ft' p = bI (ffF m (twO el j) (twW el j) c q L p) := by
  unfold zf_X8_fillFit
  rw [keep0, Option.bind_some]
  exact fill_loop hq hq2 hL hR hj hc hO hT 100 FU 0 m (kp 0 m mi) fl ft rfl (by decide) (fun _ _ => rfl) (fun p hp => by have := kp_at 0 m mi p hp; rwa [Nat.mul_zero, Nat.zero_add] at this) (fun p hp => absurd hp (Nat.not_lt_zero _))
theorem ofFit8 (F : Nat → Bool) {ft : Nat → Int32} (hft : ∀ p, p < 100 → ft p = bI (F p)) (x : Int32) : zf_X8_ofFit x ft = some (if x = 0 then tC F 100 else if x = 1 then tF F 100 else tL F 100) := by
  unfold zf_X8_ofFit
  exact ofFit_loop F hft x 100 FU 0 rfl (by decide)
theorem RNG33 (hr : RNG m) {i : Nat} (hi : i ≤ 99) : RNG (upd m 33 (nI i)) := MSt_RNG hr (t := (nI i, (t5 m).2)) ⟨⟨by show 0 ≤ (nI i).toInt; rw [nI_t (by omega)]; omega, by show (nI i).toInt ≤ 99; rw [nI_t (by omega)]; omega⟩, (RNG_TR hr).2⟩ (MS33 (MSt_self m) (nI i))
theorem TWs (hn : bnd (m 32) 0 8) {j c : Nat} (h : ∀ i, i < c → TW m el j i) : (∀ i, i < c → ORD m (twO el j i)) ∧ (∀ i, i < c → (el (40 * j + (2 * i + 1)) = 0 ∨ el (40 * j + (2 * i + 1)) = 1)) := ⟨fun i hi => isO_64 hn (isK_O (h i hi).1), fun i hi => (h i hi).2⟩
theorem ORD_q {o : Int32} {q : Nat} (hq : q ≠ 32) (x : Int32) (h : ORD m o) : ORD (upd m q x) o := by
  have e32 : upd m q x 32 = m 32 := upd_n (fun y => hq y.symm)
  unfold ORD at h ⊢
  rw [e32]
  exact h
theorem tally_loop (hc : RC te st m) (hr : RNG m) {j c K : Nat} (hK : K = 100) (hcc : c ≤ 20) (hO : ∀ i, i < c → ORD m (twO el j i)) (hT : ∀ i, i < c → (el (40 * j + (2 * i + 1)) = 0 ∨ el (40 * j + (2 * i + 1)) = 1)) {pl : Nat → Int32} (hp : ∀ q, q < 2 * c → pl q = (el (40 * j + q)).toInt32) {F : Nat → Bool} (hF : F = ffF m (twO el j) (twW el j) c 33 99) : ∀ (r f i : Nat) (tr : TTe) (fg : Nat → Int32), i + r = K → r < f → (∀ p, p < i → fg p = bI (F p)) → ∃ tr' fg', zf_X7_tallyRages_9 te st pl f (nI c) (nI i) tr (tC F i, tF F i, tL F i) fg = some (tr', (tC F K, tF F K, tL F K), fg') ∧ ∀ p, p < 100 → fg' p = bI (F p)
  | _, 0, _, _, _, _, h, _ => absurd h (Nat.not_lt_zero _)
  | 0, f + 1, i, tr, fg, h0, _, hfg => by
    have e : i = K := by omega
    subst e
    unfold zf_X7_tallyRages_9
    rw [if_pos (show (100 : Int32) ≤ nI i from by rw [hK]; decide)]
    exact ⟨_, _, rfl, fun p hp => hfg p (by omega)⟩
  | r + 1, f + 1, i, tr, fg, h0, hf, hfg => by
    have hS : SM st (upd m 33 (nI i)) := RC_SM (RC_33 hc (nI i))
    have hR := RNG33 hr (i := i) (by omega)
    obtain ⟨tr', k⟩ := fits7_loop hS (RNG_KR hR) hcc (fun p hp => ORD_q (by decide) _ (hO p hp)) hT hp c FU 0 (t5 (upd m 33 (nI i))) tr.2.2.2.2.2.1 tr.2.2.2.2.2.2 (by omega) (by show c < 2000; omega)
    have ev : fit (upd m 33 (nI i)) (twO el j) (twW el j) c 0 (t5 (upd m 33 (nI i))) = F i := by
      rw [hF]
      unfold ffF
      rw [decide_eq_true (show i ≤ 99 by omega), Bool.true_and]
    rw [ev] at k
    have et : te5 (t5 (upd m 33 (nI i))) tr.2.2.2.2.2.1 tr.2.2.2.2.2.2 = (nI i, (bk tr te).2.1, (bk tr te).2.2.1, (bk tr te).2.2.2.1, (bk tr te).2.2.2.2.1, (bk tr te).2.2.2.2.2.1, (bk tr te).2.2.2.2.2.2) := (RC_te (RC_33 (RC_bk tr hc) (nI i))).symm
    rw [et] at k
    have k' : zf_X7_fitsTwos (nI c) (nI i, (bk tr te).2.1, (bk tr te).2.2.1, (bk tr te).2.2.2.1, (bk tr te).2.2.2.2.1, (bk tr te).2.2.2.2.2.1, (bk tr te).2.2.2.2.2.2) pl st = some (F i, tr') := k
    have hfg' : ∀ p, p < i + 1 → upd fg i (bI (F i)) p = bI (F p) := by
      intro p hp
      by_cases e : p = i
      · subst e; rw [upd_s]
      · rw [upd_n e]; exact hfg p (by omega)
    unfold zf_X7_tallyRages_9 zf_X7_tallyRages_69
    rw [if_neg (le100 (by omega)), becomeT, Option.bind_some, k', Option.bind_some, if_pos (ix_nI (by omega) (by decide)), if_pos (ix_nI (by omega) (by decide)), cl_nI (by omega), upd_s, nI_1]
    cases hb : F i
    · obtain ⟨a, b, d⟩ := t_no F hb
      have ih := tally_loop hc hr hK hcc hO hT hp hF r f (i + 1) tr' (upd fg i (bI (F i))) (by omega) (by omega) hfg'
      rw [a, b, d, hb] at ih
      rw [if_pos (show bI false = 0 from rfl)]
      exact ih
    · have ih := tally_loop hc hr hK hcc hO hT hp hF r f (i + 1) tr' (upd fg i (bI (F i))) (by omega) (by omega) hfg'
      rw [hb] at ih
      rw [if_neg (show ¬ bI true = 0 by decide), add7 F (by omega) hb, Option.bind_some]
      exact ih
theorem q_rages {tr : TTe} {ta : TTy} {pl fg ft : Nat → Int32} {fl : Bool} (hc : RC te st m) (hr : RNG m) (hf : RF rf rfd) (hs : RS (m 32) sh ho sz el) (x1 x2 x3 : Int32) : ∃ r1 r2, zf_X7_rages x1 x2 x3 te tr st sh ta pl fg rf = some r1 ∧ zf_X8_rages x1 x2 x3 rfd m mi fl ho sz el ft = some r2 ∧ r1.1 = r2.1 ∧ r2.2.2.1 = m ∧ RF r1.2.2.2.2.2 r2.2.1 := by
  unfold zf_X7_rages zf_X8_rages
  rw [win7, win8 (a := 0) (b := 2) (by decide) (by decide), Option.bind_some, Option.bind_some]
  rcases twos_both hs (RC_SM hc).1 hr.1 x1 x2 (win x3 0 2) pl with ⟨e, hFE, k1, k2⟩ | ⟨j, c, pl', hj, hcc, rfl, rfl, hw, k1, k2, k3, k4⟩
  · obtain ⟨a, b, j1, j2, j3⟩ := refB hf hFE
    rw [k1, k2, Option.bind_some, Option.bind_some, if_neg (FE0 hFE), if_neg (FEn hFE), j1, j2]
    exact ⟨_, _, rfl, rfl, rfl, rfl, j3⟩
  · obtain ⟨hO, hT⟩ := TWs hr.1 k3
    obtain ⟨K, hK⟩ : ∃ K : Nat, K = 100 := ⟨100, rfl⟩
    obtain ⟨tr', fg', e1, -⟩ := tally_loop hc hr hK hcc hO hT k4 rfl K FU 0 tr fg (by omega) (by show K < 2000; omega) (fun p hp => absurd hp (Nat.not_lt_zero _))
    obtain ⟨mi', fl', ft', e2, e3⟩ := fill8 (q := 33) (L := 99) (by decide) (by decide) (by decide) (fun i hi => RNG33 hr hi) hj hcc hO hT mi fl ft
    have e1' : zf_X7_tallyRages (nI c) te tr st ta pl' fg = _ := e1
    have e2' : zf_X8_fillFit (nI j) (nI c) 33 99 m mi fl el ft = _ := e2
    have e4 := ofFit8 _ e3 x3
    rw [← hK] at e4
    rw [k1, k2, Option.bind_some, Option.bind_some, if_pos rfl, if_pos le01, e1', e2', Option.bind_some, Option.bind_some]
    dsimp only
    rw [e4, Option.bind_some]
    unfold zf_X3_told
    obtain ⟨q, hq, rfl⟩ := win_nI (B := 2) (by decide) hw
    have hq : q = 0 ∨ q = 1 ∨ q = 2 := by omega
    rcases hq with rfl | rfl | rfl <;> exact ⟨_, _, rfl, rfl, rfl, rfl, hf⟩
theorem pl_rages : PL_rages := by
  intro σ μ x1 x2 x3 N hN hrel
  obtain ⟨hc, hk, hf, hs, ht, ha, hwd⟩ := hrel
  obtain ⟨r1, r2, h1, h2, h3, h4, h5⟩ := q_rages (tr := σ.2.1) (ta := σ.2.2.2.2.2.2.2.2.2.2.2.1) (pl := σ.2.2.2.2.2.2.2.2.2.2.2.2.1) (fg := σ.2.2.2.2.2.2.2.2.2.2.2.2.2.1) (mi := μ.2.2.2.1) (fl := μ.2.2.2.2.2.2.2.2.2.2.2.1) (ft := μ.2.2.2.2.2.2.2.2.2.2.2.2.2.2.2.2.2.2.2.2.2.2.2.1) hc.1 hc.2.1 hf hs x1 x2 x3
  exact ⟨r1, r2, h1, h2, h3, eqc h4 hc, hk, h5, eqs h4 hs, ht, ha, upE h4 hwd⟩
