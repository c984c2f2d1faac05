variable {te : TTe} {st : TSt} {m : Nat → Int32} {n : Int32} {sh : TSh} {rf rfd ho sz mi : Nat → Int32} {el : Nat → Int64}
theorem t_stay (F : Nat → Bool) {a : Nat} (h : ∀ i, a ≤ i → F i = false) : ∀ r, tC F (a + r) = tC F a ∧ tF F (a + r) = tF F a ∧ tL F (a + r) = tL F a
  | 0 => ⟨rfl, rfl, rfl⟩
  | r + 1 => by
    obtain ⟨x, y, z⟩ := t_no F (h (a + r) (by omega))
    obtain ⟨x', y', z'⟩ := t_stay F h r
    exact ⟨x.trans x', y.trans y', z.trans z'⟩
theorem told7 (a b c : Int32) {q : Nat} (hq : q ≤ 2) : zf_X3_told (nI q) (a, b, c) = some (if nI q = 0 then a else if nI q = 1 then b else c) := by
  have hq : q = 0 ∨ q = 1 ∨ q = 2 := by omega
  rcases hq with rfl | rfl | rfl <;> rfl
theorem nerves_loop (hc : RC te st m) (hr : RNG m) {k : Nat} (h8 : k < 8) (hk : nI k < m 32) {j c K q : Nat} (hq : q ≤ 2) (hK : K = 41) (hcc : c ≤ 20) (hO : ∀ i, i < c → ORD m (twO el j i)) (hT : ∀ i, i < c → (el (40 * j + (2 * i + 1)) = 0 ∨ el (40 * j + (2 * i + 1)) = 1)) {pl : Nat → Int32} (hp : ∀ q, q < 2 * c → pl q = (el (40 * j + q)).toInt32) {F : Nat → Bool} (hF : F = ffF m (twO el j) (twW el j) c (4 * k + 2) 40) : ∀ (r f i : Nat) (tr : TTe) (ts : TSt) (x : Int32), i + r = K → r < f → SM ts (upd m (4 * k + 2) x) → ∃ tr' ts' ta', zf_X7_nerves_67 te st sh f (nI c) (nI k) (nI q) (nI i) tr ts (tC F i, tF F i, tL F i) pl rf = some (if nI q = 0 then tC F K else if nI q = 1 then tF F K else tL F K, tr', ts', ta', pl, rf)
  | _, 0, _, _, _, _, _, h, _ => absurd h (Nat.not_lt_zero _)
  | 0, f + 1, i, tr, ts, x, h0, _, _ => by
    have e : i = K := by omega
    subst e
    unfold zf_X7_nerves_67
    rw [if_pos (show (40 : Int32) < nI i from by rw [hK]; decide), told7 _ _ _ hq]
    exact ⟨_, _, _, rfl⟩
  | r + 1, f + 1, i, tr, ts, x, h0, hf, hS => by
    have e32 : upd m (4 * k + 2) x 32 = m 32 := upd_n (by omega)
    have hS2 := SM_nerve hS h8 (nI i)
    rw [upd_upd] at hS2
    have hR : RNG (upd m (4 * k + 2) (nI i)) := RNG_nerve hr h8 (bndI (by omega) (by omega))
    have et : t5 (upd m (4 * k + 2) (nI i)) = t5 m := by
      unfold t5
      rw [upd_n (by omega), upd_n (by omega), upd_n (by omega), upd_n (by omega), upd_n (by omega)]
    obtain ⟨tr', y⟩ := fits7_loop hS2 (RNG_KR hR) hcc (fun p hp => ORD_q (by omega) _ (hO p hp)) hT hp c FU 0 (t5 (upd m (4 * k + 2) (nI i))) tr.2.2.2.2.2.1 tr.2.2.2.2.2.2 (by omega) (by show c < 2000; omega)
    have ev : fit (upd m (4 * k + 2) (nI i)) (twO el j) (twW el j) c 0 (t5 (upd m (4 * k + 2) (nI i))) = F i := by
      rw [hF]
      unfold ffF
      rw [decide_eq_true (show i ≤ 40 by omega), Bool.true_and]
    rw [ev, et, ← bk_te hc tr] at y
    have y' : zf_X7_fitsTwos (nI c) (bk tr te) pl (ts.1, ts.2.1, ts.2.2.1, upd ts.2.2.2.1 k (nI i), ts.2.2.2.2) = some (F i, tr') := y
    unfold zf_X7_nerves_67 zf_X7_nerves_116 zf_X2_putNerve
    rw [if_neg (lt40 (by omega)), hasK hS (e32 ▸ hr.1) h8 (e32 ▸ hk), Option.bind_some, if_pos rfl, if_pos (ix_nI h8 (by decide)), cl_nI (by omega), Option.bind_some, becomeT, Option.bind_some, y', Option.bind_some, nI_1]
    dsimp only
    have ih := fun (t : TTe) => nerves_loop hc hr h8 hk hq hK hcc hO hT hp hF r f (i + 1) t _ (nI i) (by omega) (by omega) hS2
    cases hb : F i
    · obtain ⟨a, b, d⟩ := t_no F hb
      rw [a, b, d] at ih
      rw [if_neg Bool.false_ne_true]
      exact ih tr'
    · rw [if_pos rfl, add7 F (by omega) hb, Option.bind_some]
      exact ih tr'
theorem q_nerves {tr : TTe} {ts : TSt} {ta : TTy} {pl ft : Nat → Int32} {fl : Bool} (hc : RC te st m) (hr : RNG m) (hf : RF rf rfd) (hs : RS (m 32) sh ho sz el) (x1 x2 x3 x4 : Int32) : ∃ r1 r2, zf_X7_nerves x1 x2 x3 x4 te tr st ts sh ta pl rf = some r1 ∧ zf_X8_nerves x1 x2 x3 x4 rfd m mi fl ho sz el ft = some r2 ∧ r1.1 = r2.1 ∧ r2.2.2.1 = m ∧ RF r1.2.2.2.2.2 r2.2.1 := by
  have e7 : zf_X7_nerves x1 x2 x3 x4 te tr st ts sh ta pl rf = zf_X7_nerves_29 te st sh x2 x3 x4 (isK (m 32) x3.toInt64 && win x4 0 2) x2 x1 tr ts ta pl rf := by
    unfold zf_X7_nerves zf_X7_nerves_28
    rw [hasKx (RC_SM hc) hr.1, win7, Option.bind_some, Option.bind_some]
    cases isK (m 32) x3.toInt64
    · rw [if_neg Bool.false_ne_true, Bool.false_and]
    · rw [if_pos rfl, Bool.true_and]
      cases win x4 0 2
      · rw [if_neg Bool.false_ne_true]
      · rw [if_pos rfl]
  have e8 : zf_X8_nerves x1 x2 x3 x4 rfd m mi fl ho sz el ft = zf_X8_nerves_28 ho sz el x1 x2 x3 x4 (isK (m 32) x3.toInt64 && win x4 0 2) rfd m mi fl ft := by
    unfold zf_X8_nerves zf_X8_nerves_27
    rw [keeper8 _ hr.1, win8 (a := 0) (b := 2) (by decide) (by decide), Option.bind_some, Option.bind_some]
    cases isK (m 32) x3.toInt64
    · rw [if_neg Bool.false_ne_true, Bool.false_and]
    · rw [if_pos rfl, Bool.true_and]
      cases win x4 0 2
      · rw [if_neg Bool.false_ne_true]
      · rw [if_pos rfl]
  rw [e7, e8]
  unfold zf_X7_nerves_29 zf_X8_nerves_28
  rcases twos_both hs (RC_SM hc).1 hr.1 x1 x2 (isK (m 32) x3.toInt64 && win x4 0 2) pl with ⟨e, hFE, k1, k2⟩ | ⟨j, c, pl', hj, hcc, rfl, rfl, hw, k1, k2, k3, k4⟩
  · obtain ⟨a, b, j1, j2, j3⟩ := refB hf hFE
    rw [k1, k2, Option.bind_some, Option.bind_some, if_neg (FE0 hFE), if_neg (FEn hFE), j1, j2]
    exact ⟨_, _, rfl, rfl, rfl, rfl, j3⟩
  · obtain ⟨hO, hT⟩ := TWs hr.1 k3
    rw [Bool.and_eq_true] at hw
    obtain ⟨k, h8, hk, rfl⟩ := isK_32 hr.1 hw.1
    obtain ⟨q, hq, rfl⟩ := win_nI (B := 2) (by decide) hw.2
    obtain ⟨K, hK⟩ : ∃ K : Nat, K = 41 := ⟨41, rfl⟩
    obtain ⟨s, b1, b2⟩ := become7 ts st
    have hs2 : SM s (upd m (4 * k + 2) (m (4 * k + 2))) := by rw [upd_self]; exact SE_SM b2 (RC_SM hc)
    obtain ⟨tr', ts', ta', e1⟩ := nerves_loop (rf := rf) (sh := sh) hc hr h8 hk hq hK hcc hO hT k4 rfl K FU 0 tr s _ (by omega) (by show K < 2000; omega) hs2
    obtain ⟨mi', fl', ft', e2', e3⟩ := fill8 (q := 4 * k + 2) (L := 40) (by omega) (by omega) (by decide) (fun i hi => RNG_nerve hr h8 (bndI (by omega) (by omega))) hj hcc hO hT mi fl ft
    have E2 : (4 : Int32) * nI k + 2 = nI (4 * k + 2) := e4a k 2
    have e2'' : zf_X8_fillFit (nI j) (nI c) ((4 : Int32) * nI k + 2) 40 m mi fl el ft = some (m, mi', fl', ft') := by rw [E2]; exact e2'
    have e4 := ofFit8 _ e3 (nI q)
    obtain ⟨u1, u2, u3⟩ := t_stay (ffF m (twO el j) (twW el j) c (4 * k + 2) 40) (a := K) (fun i hi => by unfold ffF; rw [decide_eq_false (by omega), Bool.false_and]) 59
    rw [show K + 59 = 100 by omega] at u1 u2 u3
    rw [u1, u2, u3] at e4
    have e1' : zf_X7_nerves_67 te st sh FU (nI c) (nI k) (nI q) 0 tr s (0, -1, -1) pl' rf = _ := e1
    unfold zf_X3_clear
    rw [k1, Option.bind_some, if_pos rfl, Option.bind_some, b1, Option.bind_some, e1', k2, Option.bind_some, if_pos le01, e2'', Option.bind_some]
    dsimp only
    rw [e4, Option.bind_some]
    exact ⟨_, _, rfl, rfl, rfl, rfl, hf⟩
theorem pl_nerves : PL_nerves := by
  intro σ μ x1 x2 x3 x4 N hN hrel
  obtain ⟨hc, hk, hf, hs, ht, ha, hwd⟩ := hrel
  obtain ⟨r1, r2, h1, h2, h3, h4, h5⟩ := q_nerves (tr := σ.2.1) (ts := σ.2.2.2.2.2.1) (ta := σ.2.2.2.2.2.2.2.2.2.2.2.1) (pl := σ.2.2.2.2.2.2.2.2.2.2.2.2.1) (mi := μ.2.2.2.1) (fl := μ.2.2.2.2.2.2.2.2.2.2.2.1) (ft := μ.2.2.2.2.2.2.2.2.2.2.2.2.2.2.2.2.2.2.2.2.2.2.2.1) hc.1 hc.2.1 hf hs x1 x2 x3 x4
  exact ⟨r1, r2, h1, h2, h3, eqc h4 hc, hk, h5, eqs h4 hs, ht, ha, upE h4 hwd⟩
