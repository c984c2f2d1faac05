/-! pure rows: settles -/
variable {te : TTe} {st : TSt} {m : Nat → Int32} {n : Int32} {sh : TSh} {rf rfd ho sz mi : Nat → Int32} {el : Nat → Int64}
def lik (a b : T5) : Bool := decide (a.1 = b.1) && (decide (a.2.2.1 = b.2.2.1) && decide (a.2.1 = b.2.1))
theorem like7 (a b : T5) (x y : Bool) (f g : Int32) : zf_X5_isLike (te5 a x f) (te5 b y g) = some (lik a b) := by
  show (if a.1 = b.1 then (if a.2.2.1 = b.2.2.1 then (if a.2.1 = b.2.1 then some true else some false) else some false) else some false) = _
  unfold lik
  by_cases e1 : a.1 = b.1
  · rw [if_pos e1, decide_eq_true e1]
    by_cases e2 : a.2.2.1 = b.2.2.1
    · rw [if_pos e2, decide_eq_true e2]
      by_cases e3 : a.2.1 = b.2.1
      · rw [if_pos e3, decide_eq_true e3]; rfl
      · rw [if_neg e3, decide_eq_false e3]; rfl
    · rw [if_neg e2, decide_eq_false e2]; rfl
  · rw [if_neg e1, decide_eq_false e1]; rfl
theorem like8 {α : Type} {a b : T5} {μ μ' : Nat → Int32} (hM : MSt m b μ) (hM' : MSt m a μ') (x y : α) : (if μ 33 = μ' 33 then (if μ 34 = μ' 34 then (if μ 35 = μ' 35 then x else y) else y) else y) = if lik a b = true then x else y := by
  rw [hM.2.2.1, hM.2.2.2.1, hM.2.2.2.2.1, hM'.2.2.1, hM'.2.2.2.1, hM'.2.2.2.2.1]
  unfold lik
  by_cases e1 : b.1 = a.1
  · rw [if_pos e1, decide_eq_true e1.symm]
    by_cases e3 : b.2.1 = a.2.1
    · rw [if_pos e3, decide_eq_true e3.symm]
      by_cases e2 : b.2.2.1 = a.2.2.1
      · rw [if_pos e2, decide_eq_true e2.symm]; rfl
      · rw [if_neg e2, decide_eq_false (fun z => e2 z.symm)]; rfl
    · rw [if_neg e3, show decide (a.2.1 = b.2.1) = false from decide_eq_false (fun z => e3 z.symm), Bool.and_false, Bool.and_false]; rfl
  · rw [if_neg e1, decide_eq_false (fun z => e1 z.symm)]; rfl
theorem settle_fin {t : T5} {μ : Nat → Int32} (hM : MSt m t μ) (f : Nat) (o v w : Int32) (hv : ¬ v = -1) (fl : Bool) : zf_X8_settles_25 (f + 1) o v w rfd μ (kp 0 m mi) fl = some (v, rfd, m, kp 0 m mi, fl) := by
  unfold zf_X8_settles_25 zf_X8_settles_118
  rw [lay0 hM, Option.bind_some, if_neg hv]
  split <;> rfl
theorem settle_loop (hc : RC te st m) (hr : RNG m) {o : Int32} (hO : ORD m o) : ∀ (r f j : Nat) (b : Bool) (f0 : Int32) (ri : TTe) (μ : Nat → Int32) (fl : Bool), j + r = 200 → r < f → MSt m (rep m o j) μ → ∃ v tr' ri' fl', zf_X7_settles_29 te st f o (nI (j + 1)) (te5 (rep m o j) b f0) ri rf = some (v, tr', ri', rf) ∧ zf_X8_settles_25 f o (-1) (nI (j + 1)) rfd μ (kp 0 m mi) fl = some (v, rfd, m, kp 0 m mi, fl')
  | _, 0, _, _, _, _, _, _, _, h, _ => absurd h (Nat.not_lt_zero _)
  | 0, f + 1, j, b, f0, ri, μ, fl, h0, _, hM => by
    have e : j = 200 := by omega
    subst e
    unfold zf_X7_settles_29 zf_X8_settles_25 zf_X8_settles_118
    rw [if_pos (by decide), if_pos (by decide), lay0 hM]
    exact ⟨_, _, _, _, rfl, rfl⟩
  | r + 1, f + 1, j, b, f0, ri, μ, fl, h0, hf, hM => by
    obtain ⟨f', p1, -, -⟩ := pass7 (RC_SM hc) (RNG_KR hr) hO (rep m o j) b f0
    obtain ⟨μ', s1, s2, -⟩ := step8 hM (TR_w (RNG_TR hr) j) hO fl
    have s2' : MSt m (rep m o (j + 1)) μ' := s2
    unfold zf_X7_settles_29
    conv => enter [1, v, 1, tr', 1, ri', 1, fl', 2]; unfold zf_X8_settles_25
    unfold zf_X8_settles_110 zf_X8_settles_111
    rw [if_neg (lt200 (by omega)), if_neg (lt200 (by omega)), if_pos rfl, becomeT5 (rep m o j) b f0 ri, Option.bind_some, p1, Option.bind_some, like7, Option.bind_some, s1, Option.bind_some]
    dsimp only
    rw [like8 hM s2', nI_1]
    have er : sHr m o (rep m o j) = rep m o (j + 1) := rfl
    rw [er]
    obtain ⟨g, rfl⟩ : ∃ g, f = g + 1 := ⟨f - 1, by omega⟩
    cases lik (rep m o (j + 1)) (rep m o j)
    · rw [if_neg Bool.false_ne_true, if_neg Bool.false_ne_true]
      exact settle_loop hc hr hO r (g + 1) (j + 1) _ f' _ μ' _ (by omega) (by omega) s2'
    · rw [if_pos rfl, if_pos rfl, settle_fin s2' g o _ _ (fun y => by have := i_eq.mp y; rw [nI_t (by omega), show (-1 : Int32).toInt = -1 from rfl] at this; omega)]
      exact ⟨_, _, _, _, rfl, rfl⟩
theorem q_settles {tr ri : TTe} {fl : Bool} (hc : RC te st m) (hr : RNG m) (hf : RF rf rfd) (x1 : Int32) : ∃ r1 r2, zf_X7_settles x1 te tr ri st rf = some r1 ∧ zf_X8_settles x1 rfd m mi fl = some r2 ∧ r1.1 = r2.1 ∧ r2.2.2.1 = m ∧ RF r1.2.2.2 r2.2.1 := by
  unfold zf_X7_settles zf_X8_settles
  rw [order7 _ (RC_SM hc).1, order8 _ hr.1, Option.bind_some, Option.bind_some]
  cases h1 : isO (m 32) x1.toInt64
  · rw [r7_2, r8_2]
    exact ⟨_, _, rfl, rfl, rfl, rfl, rf_2 hf⟩
  rw [if_pos rfl, if_pos rfl, becomeM hc, keep0, Option.bind_some, Option.bind_some]
  obtain ⟨v, tr', ri', fl', k1, k2⟩ := settle_loop (rf := rf) (rfd := rfd) (mi := mi) hc hr (isO_32 hr.1 h1) 200 FU 0 tr.2.2.2.2.2.1 tr.2.2.2.2.2.2 ri m fl rfl (by decide) (MSt_self m)
  exact ⟨_, _, k1, k2, rfl, rfl, hf⟩
theorem pl_settles : PL_settles := by
  intro σ μ x1 N hN hrel
  obtain ⟨hc, hk, hf, hs, ht, ha, hwd⟩ := hrel
  obtain ⟨r1, r2, h1, h2, h3, h4, h5⟩ := q_settles (tr := σ.2.1) (ri := σ.2.2.1) (mi := μ.2.2.2.1) (fl := μ.2.2.2.2.2.2.2.2.2.2.2.1) hc.1 hc.2.1 hf x1
  exact ⟨r1, r2, h1, h2, h3, eqc h4 hc, hk, h5, eqs h4 hs, ht, ha, upE h4 hwd⟩
