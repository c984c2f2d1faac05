/-! pure rows: house -/
variable {tp L : Nat → Int32} {z : Nat} {te : TTe} {st : TSt} {m m0 : Nat → Int32}
theorem meas7 (hT : TB tp L z) {f a : Nat} (hfa : f ≤ a) (haz : a ≤ z) (h1 : ∀ j, f ≤ j → j < a → srt tp z j = 1) (v : Int32) : zf_X4_spelledMeasure (nI z, L, 1, nI f, nI a, v) = some (if bW tp f a 1 2 = true then 0 else if bW tp f a 1 3 = true then 1 else if bW tp f a 1 4 = true then 2 else if bW tp f a 1 5 = true then 3 else if bW tp f a 1 6 = true then 4 else -1) := by
  unfold zf_X4_spelledMeasure
  rw [sp2 hT hfa haz h1, sp3 hT hfa haz h1, sp4 hT hfa haz h1, sp5 hT hfa haz h1, sp6 hT hfa haz h1]
  simp only [Option.bind_some]
  cases bW tp f a 1 2
  · cases bW tp f a 1 3
    · cases bW tp f a 1 4
      · cases bW tp f a 1 5
        · cases bW tp f a 1 6 <;> rfl
        · rfl
      · rfl
    · rfl
  · rfl
/-- the component reads a statement, its first token taken -/
theorem stmtB (hT : TB tp L z) (hs : SI m0 te st m) {p : Nat} (hp : p ≤ z) (s0 f0 v f1 s1 : Int32) : ∃ (t2 : TTa) (ok : Bool) (s : Int32) (f a : Nat) (v' : Int32) (te' : TTe) (st' : TSt) (m' : Nat → Int32), zf_X4_takeToken (nI z, L, s0, f0, nI p, v) = some t2 ∧ zf_X4_readStatement t2 te st = some (ok, (nI z, L, s, nI f, nI a, v'), te', st') ∧ zf_X8_isStatement m tp (nI z) (nI p) f1 s1 zWORDS = some (ok, m', nI a, nI f, s) ∧ SI m0 te' st' m' ∧ f ≤ a ∧ a ≤ z ∧ (ok = true → p < a) := by
  have hz := hT.1
  obtain ⟨s, f, a, h1, h2, h3, h4, h5, h6, h7⟩ := tok hT hp s0 f0 v f1 s1
  have fin : ∀ c d, zf_X4_readStatement (nI z, L, s, nI f, nI a, v) te st = c → zf_X8_isStatement m tp (nI z) (nI p) f1 s1 zWORDS = d → s = 1 → ST L z m0 a c d → ∃ (t2 : TTa) (ok : Bool) (s : Int32) (f a : Nat) (v' : Int32) (te' : TTe) (st' : TSt) (m' : Nat → Int32), zf_X4_takeToken (nI z, L, s0, f0, nI p, v) = some t2 ∧ zf_X4_readStatement t2 te st = some (ok, (nI z, L, s, nI f, nI a, v'), te', st') ∧ zf_X8_isStatement m tp (nI z) (nI p) f1 s1 zWORDS = some (ok, m', nI a, nI f, s) ∧ SI m0 te' st' m' ∧ f ≤ a ∧ a ≤ z ∧ (ok = true → p < a) := by
    rintro c d ec ed es ⟨ok, s', f', a', v', te', st', m', k1, k2, k3, k4, k5, k6⟩
    have := h4 (by rw [es]; decide)
    exact ⟨_, ok, s', f', a', v', te', st', m', h6, ec.trans k1, ed.trans k2, k3, k5, k6, fun _ => by omega⟩
  have e8 : zf_X8_isStatement m tp (nI z) (nI p) f1 s1 zWORDS = (if wr (bW tp f a s) 7 = (-1 : Int32) then some (false, m, nI a, nI f, s) else (if wr (bW tp f a s) 7 = 0 then (Option.bind (zf_X8_many m) (fun u5 => (if u5 = (8 : Int32) then some (false, m, nI a, nI f, s) else zf_X8_isStatement_29 tp (nI z) zWORDS (wr (bW tp f a s) 7) m (nI a) (nI f) s))) else zf_X8_isStatement_29 tp (nI z) zWORDS (wr (bW tp f a s) 7) m (nI a) (nI f) s)) := by
    unfold zf_X8_isStatement
    rw [h7, Option.bind_some]
    dsimp only
    rw [word8 hT h2 h3, Option.bind_some]
  by_cases es : s = 1
  · have h5' := h5 es
    subst es
    have e7 : zf_X4_readStatement (nI z, L, 1, nI f, nI a, v) te st = (if bW tp f a 1 0 = true then (Option.bind (zf_X4_readKeeper (nI z, L, 1, nI f, nI a, v) st) (fun u9 => some (u9.1, u9.2.1, te, u9.2.2))) else if bW tp f a 1 1 = true then (Option.bind (zf_X4_readNerve (nI z, L, 1, nI f, nI a, v) st) (fun u8 => some (u8.1, u8.2.1, te, u8.2.2))) else (Option.bind (zf_X4_readMeasure (if bW tp f a 1 2 = true then 0 else if bW tp f a 1 3 = true then 1 else if bW tp f a 1 4 = true then 2 else if bW tp f a 1 5 = true then 3 else if bW tp f a 1 6 = true then 4 else -1) (nI z, L, 1, nI f, nI a, v) te) (fun u7 => some (u7.1, u7.2.1, u7.2.2, st)))) := by
      unfold zf_X4_readStatement
      rw [sp0 hT h2 h3 h5', sp1 hT h2 h3 h5', meas7 hT h2 h3 h5', Option.bind_some, Option.bind_some, Option.bind_some]
      dsimp only
      rw [if_pos rfl]
    rcases word_cases tp f a 1 with ⟨b0, ew⟩ | ⟨w, hw, bt, bo, ew⟩
    · rw [b0 0 (by decide), b0 1 (by decide), b0 2 (by decide), b0 3 (by decide), b0 4 (by decide), b0 5 (by decide), b0 6 (by decide)] at e7
      rw [ew] at e8
      refine fin _ _ e7 e8 rfl ?_
      exact ⟨false, 1, f, a, v, te, st, m, rfl, rfl, hs, Nat.le_refl _, h2, h3⟩
    · rw [ew] at e8
      have hw' : w = 0 ∨ w = 1 ∨ w = 2 ∨ w = 3 ∨ w = 4 ∨ w = 5 ∨ w = 6 := by omega
      rcases hw' with rfl | rfl | rfl | rfl | rfl | rfl | rfl
      · rw [bt, if_pos rfl] at e7
        rw [if_neg (by decide), if_pos (show nI 0 = 0 from rfl)] at e8
        exact fin _ _ e7 e8 rfl (sKeeper hT hs h3 h2 1 v)
      · rw [bo 0 (by decide) (by decide), bt, if_neg Bool.false_ne_true, if_pos rfl] at e7
        rw [if_neg (by decide), if_neg (by decide)] at e8
        exact fin _ _ e7 e8 rfl (sNerve hT hs h3 1 v)
      · rw [bo 0 (by decide) (by decide), bo 1 (by decide) (by decide), bt, if_neg Bool.false_ne_true, if_neg Bool.false_ne_true, if_pos rfl] at e7
        rw [if_neg (by decide), if_neg (by decide)] at e8
        exact fin _ _ e7 e8 rfl (sMeas hT hs h3 1 v (i := 0) (by decide))
      · rw [bo 0 (by decide) (by decide), bo 1 (by decide) (by decide), bo 2 (by decide) (by decide), bt, if_neg Bool.false_ne_true, if_neg Bool.false_ne_true, if_neg Bool.false_ne_true, if_pos rfl] at e7
        rw [if_neg (by decide), if_neg (by decide)] at e8
        exact fin _ _ e7 e8 rfl (sMeas hT hs h3 1 v (i := 1) (by decide))
      · rw [bo 0 (by decide) (by decide), bo 1 (by decide) (by decide), bo 2 (by decide) (by decide), bo 3 (by decide) (by decide), bt, if_neg Bool.false_ne_true, if_neg Bool.false_ne_true, if_neg Bool.false_ne_true, if_neg Bool.false_ne_true, if_pos rfl] at e7
        rw [if_neg (by decide), if_neg (by decide)] at e8
        exact fin _ _ e7 e8 rfl (sMeas hT hs h3 1 v (i := 2) (by decide))
      · rw [bo 0 (by decide) (by decide), bo 1 (by decide) (by decide), bo 2 (by decide) (by decide), bo 3 (by decide) (by decide), bo 4 (by decide) (by decide), bt, if_neg Bool.false_ne_true, if_neg Bool.false_ne_true, if_neg Bool.false_ne_true, if_neg Bool.false_ne_true, if_neg Bool.false_ne_true, if_pos rfl] at e7
        rw [if_neg (by decide), if_neg (by decide)] at e8
        exact fin _ _ e7 e8 rfl (sMeas hT hs h3 1 v (i := 3) (by decide))
      · rw [bo 0 (by decide) (by decide), bo 1 (by decide) (by decide), bo 2 (by decide) (by decide), bo 3 (by decide) (by decide), bo 4 (by decide) (by decide), bo 5 (by decide) (by decide), bt, if_neg Bool.false_ne_true, if_neg Bool.false_ne_true, if_neg Bool.false_ne_true, if_neg Bool.false_ne_true, if_neg Bool.false_ne_true, if_neg Bool.false_ne_true, if_pos rfl] at e7
        rw [if_neg (by decide), if_neg (by decide)] at e8
        exact fin _ _ e7 e8 rfl (sMeas hT hs h3 1 v (i := 4) (by decide))
  · have e7 : zf_X4_readStatement (nI z, L, s, nI f, nI a, v) te st = some (false, (nI z, L, s, nI f, nI a, v), te, st) := by
      unfold zf_X4_readStatement
      dsimp only
      rw [if_neg es]
    have ew : wr (bW tp f a s) 7 = -1 := wr_none 7 (fun w hw => by
      unfold bW
      rw [if_neg (fun y => es y.1)])
    rw [ew, if_pos rfl] at e8
    exact ⟨_, false, s, f, a, v, te, st, m, h6, e7, e8, hs, h2, h3, fun y => by cases y⟩
/-- what both come to -/
def HR (L : Nat → Int32) (z : Nat) (m0 rfd : Nat → Int32) (mi : Nat → Int32) (c : Option (Int32 × TTa × TTe × TSt)) (d : Option (Int32 × (Nat → Int32) × (Nat → Int32) × (Nat → Int32) × Int32 × Int32 × Int32 × Int32)) : Prop := ∃ (x : Int32) (ta : TTa) (te : TTe) (st : TSt) (rfd' m : Nat → Int32) (a f s : Int32), c = some (x, ta, te, st) ∧ d = some (x, rfd', m, mi, 0, a, f, s) ∧ ta.2.1 = L ∧ (((∃ k : Nat, k ≤ 250 ∧ x = nI k) ∧ rfd' = rfd ∧ SI m0 te st m) ∨ ((∃ q : Nat, q ≤ 250 ∧ x = -20 - nI q) ∧ m = m0 ∧ ∃ y, zf_X8_refuse (-2) rfd = some (y, rfd')))
theorem house_bad (hT : TB tp L z) {k : Nat} (rfd mi : Nat → Int32) (hm : ∀ j, 38 ≤ j → m j = m0 j) (hmi : ∀ p, p < 39 → mi p = m0 p) {f : Nat} (hf : f ≤ 250) (a s v : Int32) (te : TTe) (st : TSt) : ∀ g, 0 < g → HR L z m0 rfd mi (some (-20 - nI f, (nI z, L, s, nI f, a, v), te, st)) (zf_X8_house_17 tp zWORDS g (nI k) false rfd m mi (nI z) a (nI f) s)
  | 0, h => absurd h (Nat.lt_irrefl _)
  | g + 1, _ => by
    have ly : zf_X8_lay 0 m mi = some m0 := lay_keep (f := mi) (d := 0) (by decide) (fun j hj => hm j (by omega)) (fun j hj => by
      rw [show 39 * 0 + j = j by omega]
      exact hmi j hj)
    unfold zf_X8_house_17
    rw [if_neg Bool.false_ne_true, ly, Option.bind_some, r8_2, Option.bind_some]
    exact ⟨_, _, te, st, _, m0, _, _, _, rfl, rfl, rfl, Or.inr ⟨⟨f, hf, rfl⟩, rfl, _, r8_2 rfd⟩⟩
theorem house_loop (hT : TB tp L z) (rfd mi : Nat → Int32) (hmi : ∀ p, p < 39 → mi p = m0 p) : ∀ (r f g k p : Nat) (te : TTe) (st : TSt) (m : Nat → Int32) (s0 f0 v f1 s1 : Int32), p ≤ z → z - p < r → r < f → r < g → 2 * k + 2 ≤ p + 2 → SI m0 te st m → HR L z m0 rfd mi (zf_X4_read_7 f (nI (k + 1)) (nI z, L, s0, f0, nI p, v) te st) (Option.bind (zf_X8_isStatement m tp (nI z) (nI p) f1 s1 zWORDS) (fun u2 => zf_X8_house_17 tp zWORDS g (nI k) u2.1 rfd u2.2.1 mi (nI z) u2.2.2.1 u2.2.2.2.1 u2.2.2.2.2))
  | 0, _, _, _, _, _, _, _, _, _, _, _, _, _, h, _, _, _, _ => absurd h (Nat.not_lt_zero _)
  | _ + 1, 0, _, _, _, _, _, _, _, _, _, _, _, _, _, h, _, _, _ => absurd h (Nat.not_lt_zero _)
  | _ + 1, _ + 1, 0, _, _, _, _, _, _, _, _, _, _, _, _, _, h, _, _ => absurd h (Nat.not_lt_zero _)
  | r + 1, fu + 1, g + 1, k, p, te, st, m, s0, f0, v, f1, s1, hp, hr, hf, hg, hk, hs => by
    have hz := hT.1
    obtain ⟨t2, ok, s, f, a, v', te', st', m', c1, c2, d1, hs', q1, q2, q3⟩ := stmtB hT hs hp s0 f0 v f1 s1
    rw [d1, Option.bind_some]
    dsimp only
    unfold zf_X4_read_7
    rw [if_neg (show ¬ (250 : Int32) < nI (k + 1) from fun y => by have := (nIlt (a := 250) (by decide) (by omega)).mp y; omega), c1, Option.bind_some, c2, Option.bind_some]
    dsimp only
    cases ok with
    | false =>
      rw [if_neg Bool.false_ne_true]
      exact house_bad hT rfd mi hs'.2.2.1 hmi (by omega) _ _ _ _ _ (g + 1) (by omega)
    | true =>
      have q4 := q3 rfl
      obtain ⟨s2, f2, a2, b1, b2, b3, b4, -, b6, b7⟩ := tok hT q2 s (nI f) v' (nI f) s
      rw [if_pos rfl, b6, Option.bind_some]
      dsimp only
      have e17 : zf_X8_house_17 tp zWORDS (g + 1) (nI k) true rfd m' mi (nI z) (nI a) (nI f) s = (if s2 = 0 then some (nI (k + 1), rfd, m', mi, (0 : Int32), nI a2, nI f2, s2) else (if s2 = (3 : Int32) then (Option.bind (zf_X8_isStatement m' tp (nI z) (nI a2) (nI f2) s2 zWORDS) (fun u9 => zf_X8_house_17 tp zWORDS g (nI (k + 1)) u9.1 rfd u9.2.1 mi (nI z) u9.2.2.1 u9.2.2.2.1 u9.2.2.2.2)) else zf_X8_house_17 tp zWORDS g (nI (k + 1)) false rfd m' mi (nI z) (nI a2) (nI f2) s2)) := by
        conv => lhs; unfold zf_X8_house_17
        rw [if_pos rfl, b7, Option.bind_some]
        dsimp only
        rw [nI_1]
        unfold zf_X8_house_61 zf_X8_house_62
        congr 3
        funext u9
        cases u9.1 <;> rfl
      rw [e17]
      by_cases e0 : s2 = 0
      · rw [if_pos e0, if_pos e0]
        exact ⟨_, _, te', st', rfd, m', _, _, _, rfl, rfl, rfl, Or.inl ⟨⟨k + 1, by omega, rfl⟩, rfl, hs'⟩⟩
      · rw [if_neg e0, if_neg e0]
        have b5 := b4 e0
        by_cases e3 : s2 = 3
        · rw [if_pos e3, if_pos e3, nI_1]
          exact house_loop hT rfd mi hmi r fu g (k + 1) a2 te' st' m' s2 (nI f2) v' (nI f2) s2 b3 (by omega) (by omega) (by omega) (by omega) hs'
        · rw [if_neg e3, if_neg e3]
          exact house_bad hT rfd mi hs'.2.2.1 hmi (by omega) _ _ _ _ _ g (by omega)
theorem q_house {tr : TTe} {tst : TSt} {ta : TTa} {size : Int32} {rf rfd mi : Nat → Int32} {at' fr so : Int32} (hc : RC te st m) (hr : RNG m) (hf : RF rf rfd) (ht : RT ta tp size) : ∃ r1 r2, zf_X7_house te tr st tst ta rf = some r1 ∧ zf_X8_house rfd m mi tp size at' fr so zWORDS = some r2 ∧ r1.1 = r2.1 ∧ RF r1.2.2.2.2.2.2 r2.2.1 ∧ RC r1.2.1 r1.2.2.2.1 r2.2.2.1 ∧ RNG r2.2.2.1 ∧ r2.2.2.1 38 = m 38 ∧ m 32 ≤ r2.2.2.1 32 ∧ (∀ N, FB N m → FB N r2.2.2.1) ∧ RT r1.2.2.2.2.2.1 tp r2.2.2.2.2.1 := by
  obtain ⟨t1, ⟨z, -, hz, rfl⟩, t3⟩ := ht
  obtain ⟨z1, L, s0, f0, a0, v⟩ := ta
  have t1 : z1 = nI z := t1
  subst t1
  have hT : TB tp L z := ⟨hz, t3⟩
  obtain ⟨ss, k1, k2⟩ := become7 tst st
  have hmi : ∀ p, p < 39 → kp 0 m mi p = m p := fun p hp => by
    have := kp_at 0 m mi p hp
    rw [show 39 * 0 + p = p by omega] at this
    exact this
  have hk : zf_X8_keep 0 m mi = some (kp 0 m mi) := keepk m mi (d := 0) (by decide)
  obtain ⟨x, ta', te', st', rfd', m', a', f', s', c1, d1, eL, h⟩ := house_loop (m0 := m) hT rfd (kp 0 m mi) hmi 300 FU FU 0 0 (bk tr te) ss m s0 f0 v fr so (by omega) (by omega) (by show 300 < 2000; omega) (by show 300 < 2000; omega) (by omega) (SI_self (RC_SE k2 (RC_bk tr hc)) hr)
  have c1' : zf_X4_read (nI z, L, s0, f0, a0, v) (bk tr te) ss = some (x, ta', te', st') := c1
  have d1' : zf_X8_house rfd m mi tp (nI z) at' fr so zWORDS = some (x, rfd', m', kp 0 m mi, 0, a', f', s') := by
    unfold zf_X8_house
    rw [hk, Option.bind_some]
    exact d1
  have hRT : ∀ b, RT (0, ta'.2.1, b) tp 0 := fun b => ⟨rfl, ⟨0, by omega, by omega, rfl⟩, fun j hj => by
    rw [eL]
    exact t3 j hj⟩
  unfold zf_X7_house
  rw [d1', becomeT, Option.bind_some, k1, Option.bind_some, c1', Option.bind_some]
  unfold zf_X4_clear
  rw [Option.bind_some]
  dsimp only
  rcases h with ⟨⟨q, hq, rfl⟩, rfl, hs⟩ | ⟨⟨q, hq, rfl⟩, rfl, y, hy⟩
  · obtain ⟨s2, j1, j2⟩ := become7 st st'
    rw [if_pos (show (0 : Int32) ≤ nI q from (nIle (a := 0) (by decide) (by omega)).mpr (by omega)), becomeT, Option.bind_some, j1, Option.bind_some]
    exact ⟨_, _, rfl, rfl, rfl, hf, RC_SE j2 (RC_bk _ hs.1), hs.2.1, hs.2.2.1 38 (by omega), hs.2.2.2.1, hs.2.2.2.2, hRT _⟩
  · have hn : ¬ (0 : Int32) ≤ -20 - nI q := fun w => by
      have := i_le.mp w
      rw [i_sub (by rw [nI_t (by omega)]; show _ ≤ (-20 : Int) - _; omega) (by rw [nI_t (by omega)]; show (-20 : Int) - _ < _; omega), nI_t (by omega)] at this
      have h' : (0 : Int) ≤ -20 - q := this
      omega
    rw [r8_2] at hy
    have ey := Option.some.inj hy
    have ey2 : upd rfd 2 (rfd 2 + 1) = rfd' := congrArg Prod.snd ey
    subst ey2
    rw [if_neg hn, r7_2, Option.bind_some]
    exact ⟨_, _, rfl, rfl, rfl, rf_2 hf, hc, hr, rfl, i_le.mpr (Int.le_refl _), fun _ h => h, hRT _⟩
theorem pl_house : PL_house := by
  intro σ μ N hN hrel
  obtain ⟨hc, hk, hf, hs, ht, ha, hwd⟩ := hrel
  obtain ⟨r1, r2, h1, h2, h3, h4, h5, h6, h7, h8, h9, h10⟩ := q_house (tr := σ.2.1) (tst := σ.2.2.2.2.2.1) (mi := μ.2.2.2.1) (at' := μ.2.2.2.2.2.2.2.1) (fr := μ.2.2.2.2.2.2.2.2.1) (so := μ.2.2.2.2.2.2.2.2.2.1) hc.1 hc.2.1 hf ht
  exact ⟨r1, r2, h1, by rw [hwd.1]; exact h2, h3, ⟨h5, h6, hc.2.2.trans h7.symm⟩, hk, h4, RS_mono hs h8, h10, ha, upF (fun y => FB_up (h9 _ y)) hwd⟩
