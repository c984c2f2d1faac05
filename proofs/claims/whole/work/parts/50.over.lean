/-! pure rows: over, safest -/
variable {te : TTe} {st : TSt} {m : Nat → Int32} {n : Int32} {sh : TSh} {rf rfd ho sz mi : Nat → Int32} {el : Nat → Int64}
theorem wB_inv (o : Nat → Int32) (t : T5) : ∀ i, i < 1000 → ∃ a b : Nat, a ≤ i ∧ b ≤ i ∧ wH m o t i = nI a ∧ wB m o t i = nI b ∧ (a = 0 → b = i) ∧ (a ≠ 0 → b < i)
  | 0, _ => ⟨0, 0, by omega, by omega, rfl, rfl, fun _ => rfl, fun h => absurd rfl h⟩
  | i + 1, hi => by
    obtain ⟨a, b, h1, h2, e1, e2, h3, h4⟩ := wB_inv o t i (by omega)
    have eB : wB m o t (i + 1) = if wH m o t (i + 1) = 0 then wB m o t i + 1 else wB m o t i := rfl
    have eH : wH m o t (i + 1) = wH m o t i + bI (sHm m (o i) (wT m o t i)) := rfl
    cases hs : sHm m (o i) (wT m o t i)
    · have eH' : wH m o t (i + 1) = nI a := by rw [eH, hs, e1]; exact Int32.add_zero _
      rw [eB, eH', e2, nI_1]
      by_cases z : a = 0
      · subst z
        rw [if_pos (show nI 0 = 0 from rfl)]
        exact ⟨0, b + 1, by omega, by omega, rfl, rfl, fun _ => by have := h3 rfl; omega, fun h => absurd rfl h⟩
      · rw [if_neg (show ¬ nI a = 0 from fun y => z ((nIeq (b := 0) (by omega) (by decide)).mp y))]
        exact ⟨a, b, by omega, by omega, rfl, rfl, fun h => absurd h z, fun h => by have := h4 h; omega⟩
    · have eH' : wH m o t (i + 1) = nI (a + 1) := by rw [eH, hs, e1]; exact nI_1 a
      rw [eB, eH', e2, nI_1, if_neg (show ¬ nI (a + 1) = 0 from fun y => by have := (nIeq (b := 0) (by omega) (by decide)).mp y; omega)]
      exact ⟨a + 1, b, by omega, by omega, rfl, rfl, fun h => by omega, fun _ => by omega⟩
/-- what over tells -/
def ovV (m o : Nat → Int32) (K q : Nat) : Int32 := if q = 0 then wLR m o (t5 m) K else if q = 1 then wB m o (t5 m) K else if q = 2 then (wT m o (t5 m) K).1 else if q = 3 then (wT m o (t5 m) K).2.1 else (wT m o (t5 m) K).2.2.1
def ov4 (m o : Nat → Int32) (i : Nat) : Int32 := if wH m o (t5 m) i = 0 then 48 else wB m o (t5 m) i
theorem ov4_48 (o : Nat → Int32) {K : Nat} (hK : K = 48) : ov4 m o K = wB m o (t5 m) K := by
  obtain ⟨a, b, h1, h2, e1, e2, h3, h4⟩ := wB_inv (m := m) o (t5 m) K (by omega)
  unfold ov4
  rw [e1, e2]
  by_cases z : a = 0
  · subst z; rw [if_pos (show nI 0 = 0 from rfl), h3 rfl, hK]; rfl
  · rw [if_neg (show ¬ nI a = 0 from fun y => z ((nIeq (b := 0) (by omega) (by decide)).mp y))]
theorem ov4_s (o : Nat → Int32) {i : Nat} (hi : i < 48) : ov4 m o (i + 1) = if bI (sHm m (o i) (wT m o (t5 m) i)) = 1 then (if ov4 m o i = 48 then nI i else ov4 m o i) else ov4 m o i := by
  obtain ⟨a, b, h1, h2, e1, e2, h3, h4⟩ := wB_inv (m := m) o (t5 m) i (by omega)
  have eB : wB m o (t5 m) (i + 1) = if wH m o (t5 m) (i + 1) = 0 then wB m o (t5 m) i + 1 else wB m o (t5 m) i := rfl
  have eH : wH m o (t5 m) (i + 1) = wH m o (t5 m) i + bI (sHm m (o i) (wT m o (t5 m) i)) := rfl
  have z0 : ∀ c, 0 < c → c < 1000 → ¬ nI c = 0 := fun c h h' y => by have := (nIeq (b := 0) (by omega) (by decide)).mp y; omega
  unfold ov4
  rw [eB]
  cases hs : sHm m (o i) (wT m o (t5 m) i)
  · have eH' : wH m o (t5 m) (i + 1) = nI a := by rw [eH, hs, e1]; exact Int32.add_zero _
    rw [eH', e1, e2, if_neg (show ¬ bI false = 1 by decide)]
    by_cases z : a = 0
    · subst z; rw [if_pos (show nI 0 = 0 from rfl), if_pos (show nI 0 = 0 from rfl)]
    · rw [if_neg (z0 a (by omega) (by omega)), if_neg (z0 a (by omega) (by omega)), if_neg (z0 a (by omega) (by omega))]
  · have eH' : wH m o (t5 m) (i + 1) = nI (a + 1) := by rw [eH, hs, e1]; exact nI_1 a
    rw [eH', e1, e2, if_pos (show bI true = 1 by decide), if_neg (z0 (a + 1) (by omega) (by omega)), if_neg (z0 (a + 1) (by omega) (by omega))]
    by_cases z : a = 0
    · subst z
      rw [if_pos (show nI 0 = 0 from rfl), if_pos rfl, h3 rfl]
    · have hb := h4 z
      rw [if_neg (z0 a (by omega) (by omega)), if_neg (show ¬ nI b = 48 from fun y => by have := (nIeq (b := 48) (by omega) (by decide)).mp y; omega)]
theorem over_loop (hr : RNG m) {o : Int32} (hO : ORD m o) {q K : Nat} (hK : K = 48) (hq : q ≤ 4) : ∀ (r f i : Nat) (μ : Nat → Int32) (fl : Bool), i + r = K → r < f → MSt m (wT m (fun _ => o) (t5 m) i) μ → ∃ fl', zf_X8_overBy_20 f o (nI q) (wLR m (fun _ => o) (t5 m) i) (ov4 m (fun _ => o) i) (nI i) μ (kp 0 m mi) fl = some (ovV m (fun _ => o) K q, m, kp 0 m mi, fl')
  | _, 0, _, _, _, _, h, _ => absurd h (Nat.not_lt_zero _)
  | 0, f + 1, i, μ, fl, h0, _, hM => by
    have e : i = K := by omega
    subst e
    unfold zf_X8_overBy_20 zf_X8_overBy_103
    rw [if_pos (show (48 : Int32) ≤ nI i from by rw [hK]; decide), lay0 hM, ov4_48 _ hK]
    simp only [Option.bind_some]
    have hq : q = 0 ∨ q = 1 ∨ q = 2 ∨ q = 3 ∨ q = 4 := by omega
    rcases hq with rfl | rfl | rfl | rfl | rfl
    · exact ⟨_, rfl⟩
    · exact ⟨_, rfl⟩
    · have e := hM.2.2.1
      refine ⟨fl, ?_⟩
      show some (μ 33, m, _, _) = some ((wT m (fun _ => o) (t5 m) i).1, _)
      rw [e]
    · have e := hM.2.2.2.1
      refine ⟨fl, ?_⟩
      show some (μ 34, m, _, _) = some ((wT m (fun _ => o) (t5 m) i).2.1, _)
      rw [e]
    · have e := hM.2.2.2.2.1
      refine ⟨fl, ?_⟩
      show some (μ 35, m, _, _) = some ((wT m (fun _ => o) (t5 m) i).2.2.1, _)
      rw [e]
  | r + 1, f + 1, i, μ, fl, h0, hf, hM => by
    have hn : ¬ (48 : Int32) ≤ nI i := nle (a := 48) (by omega) (by decide)
    obtain ⟨μ', s1, s2, -⟩ := step8 hM (TR_w (RNG_TR hr) i) hO fl
    have s33 : μ' 33 = (wT m (fun _ => o) (t5 m) (i + 1)).1 := s2.2.2.1
    unfold zf_X8_overBy_20 zf_X8_overBy_54 zf_X8_overBy_52 zf_X8_overBy_54
    rw [if_neg hn, s1, Option.bind_some]
    dsimp only
    rw [nI_1]
    have a2 : ∀ [inst : Decidable (wLR m (fun _ => o) (t5 m) i < μ' 33)], (if wLR m (fun _ => o) (t5 m) i < μ' 33 then wLR m (fun _ => o) (t5 m) i else μ' 33) = wLR m (fun _ => o) (t5 m) (i + 1) := by
      intro inst
      conv => rhs; unfold wLR
      rw [← s33]
      by_cases y : μ' 33 < wLR m (fun _ => o) (t5 m) i
      · rw [if_pos y, if_neg (show ¬ wLR m (fun _ => o) (t5 m) i < μ' 33 from fun z => by have := i_lt.mp y; have := i_lt.mp z; omega)]
      · rw [if_neg y]
        by_cases z : wLR m (fun _ => o) (t5 m) i < μ' 33
        · rw [if_pos z]
        · rw [if_neg z]
          exact i_eq.mpr (by have := i_nlt y; have := i_nlt z; omega)
    rw [a2]
    obtain ⟨fl', k⟩ := over_loop hr hO hK hq r f (i + 1) μ' (sFl m o (wT m (fun _ => o) (t5 m) i)) (by omega) (by omega) s2
    rw [ov4_s (m := m) (fun _ => o) (i := i) (by omega)] at k
    refine ⟨fl', ?_⟩
    by_cases y : bI (sHm m o (wT m (fun _ => o) (t5 m) i)) = 1
    · rw [if_pos y] at k ⊢
      by_cases z : ov4 m (fun _ => o) i = 48
      · rw [if_pos z] at k ⊢; exact k
      · rw [if_neg z] at k ⊢; exact k
    · rw [if_neg y] at k ⊢; exact k
theorem overBy8 (hr : RNG m) {o : Int32} (hO : ORD m o) {q K : Nat} (hK : K = 48) (hq : q ≤ 4) (mi : Nat → Int32) (fl : Bool) : ∃ fl', zf_X8_overBy o (nI q) m mi fl = some (ovV m (fun _ => o) K q, m, kp 0 m mi, fl') := by
  obtain ⟨fl', k⟩ := over_loop (mi := mi) hr hO hK hq K FU 0 m fl (by omega) (by show K < 2000; omega) (MSt_self m)
  refine ⟨fl', ?_⟩
  unfold zf_X8_overBy
  rw [keep0, Option.bind_some]
  exact k
theorem wOver_loop (o : Int32) (wa : TWa) : ∀ (r f i : Nat) (pl : Nat → Int32), i + r = 48 → r < f → (∀ j, j < i → pl j = o) → ∃ pl', zf_X7_walkOver_2 te st f o (nI i) wa pl = Option.bind (zf_X6_along 48 wa pl' te st) (fun u2 => some (u2, pl')) ∧ ∀ j, j < 48 → pl' j = o
  | _, 0, _, _, _, h, _ => absurd h (Nat.not_lt_zero _)
  | 0, f + 1, i, pl, h0, _, hp => by
    have e : i = 48 := by omega
    subst e
    unfold zf_X7_walkOver_2
    rw [if_pos (by decide)]
    exact ⟨pl, rfl, hp⟩
  | r + 1, f + 1, i, pl, h0, hf, hp => by
    have hn : ¬ (48 : Int32) ≤ nI i := nle (a := 48) (by omega) (by decide)
    unfold zf_X7_walkOver_2
    rw [if_neg hn, if_pos (ix_nI (by omega) (by decide)), nI_1, cl_nI (by omega)]
    refine wOver_loop o wa r f (i + 1) _ (by omega) (by omega) (fun j hj => ?_)
    by_cases e : j = i
    · subst e; rw [upd_s]
    · rw [upd_n e]; exact hp j (by omega)
theorem wOver7 (hc : RC te st m) (hr : RNG m) {K : Nat} (hK : K = 48) {o : Int32} (hO : ORD m o) (wa : TWa) (pl : Nat → Int32) : ∃ b' f' pl', zf_X7_walkOver o te st wa pl = some ((te5 (wT m (fun _ => o) (t5 m) K) b' f', wH m (fun _ => o) (t5 m) K, wF m (fun _ => o) (t5 m) K, wFF m (fun _ => o) (t5 m) K, wB m (fun _ => o) (t5 m) K, wLR m (fun _ => o) (t5 m) K, wHR m (fun _ => o) (t5 m) K, wHH m (fun _ => o) (t5 m) K, wLC m (fun _ => o) (t5 m) K), pl') := by
  obtain ⟨pl', k1, k2⟩ := wOver_loop (te := te) (st := st) o wa 48 FU 0 pl rfl (by decide) (fun j hj => absurd hj (Nat.not_lt_zero _))
  obtain ⟨b', f', e1⟩ := along7 hc hr wa pl' (fun _ => o) (c := K) (by omega) (fun i hi => ⟨k2 i (by omega), hO⟩)
  have e48 : nI K = 48 := by rw [hK]; rfl
  rw [e48] at e1
  have k1' : zf_X7_walkOver o te st wa pl = _ := k1
  rw [k1', e1]
  exact ⟨_, _, _, rfl⟩
theorem q_over {wa : TWa} {pl : Nat → Int32} {fl : Bool} (hc : RC te st m) (hr : RNG m) (hf : RF rf rfd) (x1 x2 : Int32) : ∃ r1 r2, zf_X7_over x1 x2 te st wa pl rf = some r1 ∧ zf_X8_over x1 x2 rfd m mi fl = some r2 ∧ r1.1 = r2.1 ∧ r2.2.2.1 = m ∧ RF r1.2.2.2 r2.2.1 := by
  have hno : ∃ r1 r2, zf_X7_over_18 te st wa pl rf = some r1 ∧ zf_X8_over_30 rfd m mi fl = some r2 ∧ r1.1 = r2.1 ∧ r2.2.2.1 = m ∧ RF r1.2.2.2 r2.2.1 := by
    unfold zf_X7_over_18 zf_X8_over_30
    rw [r7_2, r8_2]
    exact ⟨_, _, rfl, rfl, rfl, rfl, rf_2 hf⟩
  unfold zf_X7_over zf_X8_over
  rw [order7 _ (RC_SM hc).1, order8 _ hr.1, win7, win8 (a := 0) (b := 4) (by decide) (by decide), Option.bind_some, Option.bind_some, Option.bind_some, Option.bind_some]
  cases h1 : isO (m 32) x1.toInt64
  · exact hno
  cases h2 : win x2 0 4
  · exact hno
  rw [if_pos rfl, if_pos rfl, if_pos rfl, if_pos rfl]
  have hO := isO_32 hr.1 h1
  obtain ⟨q, hq, rfl⟩ := win_nI (B := 4) (by decide) h2
  obtain ⟨K, hK⟩ : ∃ K : Nat, K = 48 := ⟨48, rfl⟩
  obtain ⟨b', f', pl', e1⟩ := wOver7 hc hr hK hO wa pl
  obtain ⟨fl', e2⟩ := overBy8 hr hO hK hq mi fl
  rw [e1, e2, Option.bind_some, Option.bind_some]
  have hq : q = 0 ∨ q = 1 ∨ q = 2 ∨ q = 3 ∨ q = 4 := by omega
  rcases hq with rfl | rfl | rfl | rfl | rfl <;> exact ⟨_, _, rfl, rfl, rfl, rfl, hf⟩
theorem pl_over : PL_over := by
  intro σ μ x1 x2 N hN hrel
  obtain ⟨hc, hk, hf, hs, ht, ha, hwd⟩ := hrel
  obtain ⟨r1, r2, h1, h2, h3, h4, h5⟩ := q_over (wa := σ.2.2.2.2.2.2.2.2.2.1) (pl := σ.2.2.2.2.2.2.2.2.2.2.2.2.1) (mi := μ.2.2.2.1) (fl := μ.2.2.2.2.2.2.2.2.2.2.2.1) hc.1 hc.2.1 hf x1 x2
  exact ⟨r1, r2, h1, h2, h3, eqc h4 hc, hk, h5, eqs h4 hs, ht, ha, upE h4 hwd⟩
theorem safe_loop (hc : RC te st m) (hr : RNG m) {c : Nat} (hc8 : c ≤ 8) (ec : m 32 = nI c) : ∀ (r f i : Nat) (v1 v2 : Int32) (wa : TWa) (pl mi : Nat → Int32) (fl : Bool), i + r = c + 2 → r < f → ∃ v wa' pl' mi' fl', zf_X7_safest_6 te st f v1 v2 (nI i) wa pl = some (v, wa', pl') ∧ zf_X8_safest_6 f v1 v2 (nI i) m mi fl = some (v, m, mi', fl')
  | _, 0, _, _, _, _, _, _, _, _, h => absurd h (Nat.not_lt_zero _)
  | 0, f + 1, i, v1, v2, wa, pl, mi, fl, h0, _ => by
    have e : i = c + 2 := by omega
    subst e
    unfold zf_X7_safest_6 zf_X8_safest_6 zf_X7_orderCount zf_X8_many
    rw [(RC_SM hc).1, ec, Option.bind_some, Option.bind_some, show nI c + 2 = nI (c + 2) from nI_add c 2, if_pos (i_le.mpr (Int.le_refl _)), if_pos (i_le.mpr (Int.le_refl _))]
    exact ⟨_, _, _, _, _, rfl, rfl⟩
  | r + 1, f + 1, i, v1, v2, wa, pl, mi, fl, h0, hf => by
    have hn : ¬ nI (c + 2) ≤ nI i := nle (by omega) (by omega)
    have hO := ordAt_ORD (m := m) hc8 ec (i := i) (by omega)
    obtain ⟨K, hK⟩ : ∃ K : Nat, K = 48 := ⟨48, rfl⟩
    obtain ⟨b', f', pl', e1⟩ := wOver7 hc hr hK hO wa pl
    obtain ⟨fl', e2⟩ := overBy8 hr hO hK (q := 1) (by decide) mi fl
    have e2' : zf_X8_overBy (ordAt c i) 1 m mi fl = some (wB m (fun _ => ordAt c i) (t5 m) K, m, kp 0 m mi, fl') := e2
    unfold zf_X7_safest_6 zf_X8_safest_6 zf_X7_orderCount zf_X8_many zf_X7_safest_54 zf_X8_safest_43
    rw [(RC_SM hc).1, ec, Option.bind_some, Option.bind_some, show nI c + 2 = nI (c + 2) from nI_add c 2, if_neg hn, if_neg hn, ordAt7 (RC_SM hc).1 hc8 ec (by omega), ordAt8 hc8 ec (by omega)]
    simp only [Option.bind_some, e1, e2']
    rw [ordAt8 hc8 ec (by omega), nI_1]
    simp only [Option.bind_some]
    generalize wB m (fun _ => ordAt c i) (t5 m) K = A
    by_cases y : A ≤ v2
    · have e : (if A < v2 then v2 else A) = v2 := by
        by_cases z : A < v2
        · rw [if_pos z]
        · rw [if_neg z]; exact i_eq.mpr (by have := i_le.mp y; have := i_nlt z; omega)
      rw [if_pos y, if_pos y, e]
      exact safe_loop hc hr hc8 ec r f (i + 1) _ _ _ _ _ _ (by omega) (by omega)
    · have e : (if A < v2 then v2 else A) = A := if_neg (fun z => y (i_le.mpr (by have := i_lt.mp z; omega)))
      rw [if_neg y, if_neg y, e]
      exact safe_loop hc hr hc8 ec r f (i + 1) _ _ _ _ _ _ (by omega) (by omega)
theorem pl_safest : PL_safest := by
  intro σ μ N hN hrel
  obtain ⟨hc, hk, hf, hs, ht, ha, hwd⟩ := hrel
  obtain ⟨c, -, hc8, ec⟩ := hc.2.1.1
  obtain ⟨v, wa', pl', mi', fl', k1, k2⟩ := safe_loop hc.1 hc.2.1 hc8 ec (c + 2) FU 0 (-1) (-1) σ.2.2.2.2.2.2.2.2.2.1 σ.2.2.2.2.2.2.2.2.2.2.2.2.1 μ.2.2.2.1 μ.2.2.2.2.2.2.2.2.2.2.2.1 (by omega) (by show c + 2 < 2000; omega)
  exact ⟨(v, wa', pl'), (v, μ.2.1, mi', fl'), k1, k2, rfl, hc, hk, hf, hs, ht, ha, up hwd⟩
