/-! pure rows: a roster walked -/
variable {te : TTe} {st : TSt} {m : Nat → Int32} {n : Int32} {sh : TSh} {rf rfd ho sz : Nat → Int32} {el : Nat → Int64}
def wT (m o : Nat → Int32) (t : T5) : Nat → T5
  | 0 => t
  | i + 1 => sHr m (o i) (wT m o t i)
def wH (m o : Nat → Int32) (t : T5) : Nat → Int32
  | 0 => 0
  | i + 1 => wH m o t i + bI (sHm m (o i) (wT m o t i))
def wF (m o : Nat → Int32) (t : T5) : Nat → Int32
  | 0 => 0
  | i + 1 => wF m o t i + bI (sFl m (o i) (wT m o t i))
def wFF (m o : Nat → Int32) (t : T5) : Nat → Int32
  | 0 => -1
  | i + 1 => if sFl m (o i) (wT m o t i) = true then (if wFF m o t i = -1 then nI i else wFF m o t i) else wFF m o t i
def wB (m o : Nat → Int32) (t : T5) : Nat → Int32
  | 0 => 0
  | i + 1 => if wH m o t (i + 1) = 0 then wB m o t i + 1 else wB m o t i
def wLR (m o : Nat → Int32) (t : T5) : Nat → Int32
  | 0 => t.1
  | i + 1 => if (wT m o t (i + 1)).1 < wLR m o t i then (wT m o t (i + 1)).1 else wLR m o t i
def wHR (m o : Nat → Int32) (t : T5) : Nat → Int32
  | 0 => t.1
  | i + 1 => if (wT m o t (i + 1)).1 ≤ wHR m o t i then wHR m o t i else (wT m o t (i + 1)).1
def wHH (m o : Nat → Int32) (t : T5) : Nat → Int32
  | 0 => 0
  | i + 1 => if (wT m o t (i + 1)).1 ≤ wHR m o t i then wHH m o t i else nI (i + 1)
def wLC (m o : Nat → Int32) (t : T5) : Nat → Int32
  | 0 => t.2.1
  | i + 1 => if (wT m o t (i + 1)).2.1 < wLC m o t i then (wT m o t (i + 1)).2.1 else wLC m o t i
theorem TR_w {o : Nat → Int32} {t : T5} (h : TR t) : ∀ i, TR (wT m o t i)
  | 0 => h
  | i + 1 => TR_hr (TR_w h i)
theorem wF_inv (o : Nat → Int32) (t : T5) : ∀ i, i < 1000 → (wF m o t i = 0 ∧ wFF m o t i = -1) ∨ (∃ a b, 0 < a ∧ a ≤ i ∧ b < i ∧ wF m o t i = nI a ∧ wFF m o t i = nI b)
  | 0, _ => Or.inl ⟨rfl, rfl⟩
  | i + 1, h => by
    unfold wF wFF
    rcases wF_inv o t i (by omega) with ⟨e1, e2⟩ | ⟨a, b, h1, h2, h3, e1, e2⟩
    · rw [e1, e2]
      cases sFl m (o i) (wT m o t i)
      · exact Or.inl ⟨rfl, rfl⟩
      · exact Or.inr ⟨1, i, by omega, by omega, by omega, rfl, rfl⟩
    · rw [e1, e2]
      cases sFl m (o i) (wT m o t i)
      · exact Or.inr ⟨a, b, h1, by omega, by omega, Int32.add_zero _, rfl⟩
      · refine Or.inr ⟨a + 1, b, by omega, by omega, by omega, nI_1 a, ?_⟩
        rw [if_pos rfl, if_neg (fun y => by have := i_eq.mp y; rw [nI_t (by omega), show (-1 : Int32).toInt = -1 from rfl] at this; omega)]
theorem wF_0 (o : Nat → Int32) (t : T5) {i : Nat} (hi : i < 1000) : wF m o t i = 0 ↔ wFF m o t i = -1 := by
  rcases wF_inv (m := m) o t i hi with ⟨e1, e2⟩ | ⟨a, b, h1, h2, h3, e1, e2⟩
  · exact ⟨fun _ => e2, fun _ => e1⟩
  · refine ⟨fun y => ?_, fun y => ?_⟩
    · rw [e1] at y
      have := i_eq.mp y
      rw [nI_t (by omega), show (0 : Int32).toInt = 0 from rfl] at this
      omega
    · rw [e2] at y
      have := i_eq.mp y
      rw [nI_t (by omega), show (-1 : Int32).toInt = -1 from rfl] at this
      omega
theorem go_s (ros : Nat → Int32) (f : Nat) {c i : Nat} (hc : c ≤ 40) (hi : i < c) (v : Int32) (μ : Nat → Int32) (fl : Bool) (fls ff : Int32) {h : Int32} {μ' : Nat → Int32} {fl' : Bool} (hst : zf_X8_step (ros i) μ fl = some (h, μ', fl')) : zf_X8_go_14 ros (f + 1) (nI c) v (nI i) μ fl fls ff = zf_X8_go_14 ros f (nI c) (v + h) (nI (i + 1)) μ' fl' (fls + bI fl') (if fl' = true then (if ff = -1 then nI i else ff) else ff) := by
  have hq : ¬ nI c ≤ nI i := nle (by omega) (by omega)
  conv => lhs; unfold zf_X8_go_14
  unfold zf_X8_go_49 zf_X8_go_73 zf_X8_go_77
  rw [if_neg hq, if_pos (ix_nI (by omega) (by decide)), cl_nI (by omega), hst, Option.bind_some, nI_1]
  dsimp only
  cases fl'
  · rfl
  · rw [if_pos rfl, if_pos rfl]
    by_cases e : ff = -1
    · rw [if_pos e, if_pos e]; rfl
    · rw [if_neg e, if_neg e]; rfl
theorem go_loop {t : T5} (ht : TR t) (ros : Nat → Int32) {c : Nat} (hc : c ≤ 40) (ho : ∀ i, i < c → ORD m (ros i)) : ∀ (r f i : Nat) (μ : Nat → Int32) (fl : Bool), i + r = c → r < f → MSt m (wT m ros t i) μ → ∃ μ' fl', zf_X8_go_14 ros f (nI c) (wH m ros t i) (nI i) μ fl (wF m ros t i) (wFF m ros t i) = some (wH m ros t c, μ', fl', wF m ros t c, wFF m ros t c) ∧ MSt m (wT m ros t c) μ'
  | _, 0, _, _, _, _, h, _ => absurd h (Nat.not_lt_zero _)
  | 0, f + 1, i, μ, fl, h0, _, hM => by
    have e : i = c := by omega
    subst e
    unfold zf_X8_go_14
    rw [if_pos (i_le.mpr (Int.le_refl _))]
    exact ⟨μ, fl, rfl, hM⟩
  | r + 1, f + 1, i, μ, fl, h0, hf, hM => by
    obtain ⟨μ', s1, s2, -⟩ := step8 hM (TR_w ht i) (ho i (by omega)) fl
    rw [go_s ros f hc (by omega) _ _ _ _ _ s1]
    exact go_loop ht ros hc ho r f (i + 1) μ' _ (by omega) (by omega) s2
theorem go8 (ht : TR (t5 m)) (ros : Nat → Int32) {c : Nat} (hc : c ≤ 40) (ho : ∀ i, i < c → ORD m (ros i)) (fl : Bool) (x y : Int32) : ∃ μ' fl', zf_X8_go (nI c) m fl ros x y = some (wH m ros (t5 m) c, μ', fl', wF m ros (t5 m) c, wFF m ros (t5 m) c) ∧ MSt m (wT m ros (t5 m) c) μ' := by
  unfold zf_X8_go
  exact go_loop ht ros hc ho c FU 0 m fl (by omega) (by show c < 2000; omega) (MSt_self m)
/-- an hour noted -/
theorem note7 (o : Nat → Int32) (t : T5) {i : Nat} (hi : i < 1000) (f' : Int32) (hf : f' = -1 ↔ sFl m (o i) (wT m o t i) = false) : zf_X6_noteHour (nI i) (te5 (wT m o t (i + 1)) (sHm m (o i) (wT m o t i)) f', wH m o t i, wF m o t i, wFF m o t i, wB m o t i, wLR m o t i, wHR m o t i, wHH m o t i, wLC m o t i) = some (te5 (wT m o t (i + 1)) (sHm m (o i) (wT m o t i)) f', wH m o t (i + 1), wF m o t (i + 1), wFF m o t (i + 1), wB m o t (i + 1), wLR m o t (i + 1), wHR m o t (i + 1), wHH m o t (i + 1), wLC m o t (i + 1)) := by
  have n70 : ∀ a b c d, zf_X6_noteHour_70 (nI i) (te5 (wT m o t (i + 1)) (sHm m (o i) (wT m o t i)) f', a, b, c, d, wLR m o t i, wHR m o t i, wHH m o t i, wLC m o t i) = some (te5 (wT m o t (i + 1)) (sHm m (o i) (wT m o t i)) f', a, b, c, d, wLR m o t (i + 1), wHR m o t (i + 1), wHH m o t (i + 1), wLC m o t (i + 1)) := by
    intro a b c d
    unfold zf_X6_noteHour_70 zf_X6_noteHour_102
    dsimp only
    show (if (wT m o t (i + 1)).1 ≤ wHR m o t i then _ else _) = _
    conv => rhs; unfold wLR wHR wHH wLC
    by_cases h : (wT m o t (i + 1)).1 ≤ wHR m o t i
    · rw [if_pos h, if_pos h, if_pos h]
    · rw [if_neg h, if_neg h, if_neg h, nI_1]
  have n53 : ∀ b c, zf_X6_noteHour_53 (nI i) (te5 (wT m o t (i + 1)) (sHm m (o i) (wT m o t i)) f', wH m o t (i + 1), b, c, wB m o t i, wLR m o t i, wHR m o t i, wHH m o t i, wLC m o t i) = some (te5 (wT m o t (i + 1)) (sHm m (o i) (wT m o t i)) f', wH m o t (i + 1), b, c, wB m o t (i + 1), wLR m o t (i + 1), wHR m o t (i + 1), wHH m o t (i + 1), wLC m o t (i + 1)) := by
    intro b c
    unfold zf_X6_noteHour_53
    dsimp only
    rw [n70, n70]
    conv => rhs; rw [show wB m o t (i + 1) = if wH m o t (i + 1) = 0 then wB m o t i + 1 else wB m o t i from rfl]
    by_cases h : wH m o t (i + 1) = 0
    · rw [if_pos h, if_pos h]
    · rw [if_neg h, if_neg h]
  have n33 : ∀ b c, zf_X6_noteHour_33 (nI i) (te5 (wT m o t (i + 1)) (sHm m (o i) (wT m o t i)) f', wH m o t i, b, c, wB m o t i, wLR m o t i, wHR m o t i, wHH m o t i, wLC m o t i) = some (te5 (wT m o t (i + 1)) (sHm m (o i) (wT m o t i)) f', wH m o t (i + 1), b, c, wB m o t (i + 1), wLR m o t (i + 1), wHR m o t (i + 1), wHH m o t (i + 1), wLC m o t (i + 1)) := by
    intro b c
    have eH : wH m o t (i + 1) = wH m o t i + bI (sHm m (o i) (wT m o t i)) := rfl
    unfold zf_X6_noteHour_33
    dsimp only
    show (if sHm m (o i) (wT m o t i) = true then _ else _) = _
    rw [← n53 b c]
    by_cases h : sHm m (o i) (wT m o t i) = true
    · rw [if_pos h, eH, h]; rfl
    · rw [if_neg h, eH, Bool.eq_false_iff.mpr h]
      congr 2
      exact congrArg (fun z => (z, _)) (Int32.add_zero _).symm
  unfold zf_X6_noteHour zf_X6_noteHour_23
  dsimp only
  show (if f' = -1 then _ else _) = _
  rw [n33, n33, n33]
  cases hF : sFl m (o i) (wT m o t i)
  · rw [if_pos (hf.mpr hF)]
    have e1 : wF m o t (i + 1) = wF m o t i := by
      show wF m o t i + bI (sFl m (o i) (wT m o t i)) = _
      rw [hF]; exact Int32.add_zero _
    have e2 : wFF m o t (i + 1) = wFF m o t i := by
      show (if sFl m (o i) (wT m o t i) = true then _ else _) = _
      rw [hF, if_neg Bool.false_ne_true]
    rw [e1, e2]
  · rw [if_neg (fun y => by rw [hf.mp y] at hF; cases hF)]
    have e1 : wF m o t (i + 1) = wF m o t i + 1 := by
      show wF m o t i + bI (sFl m (o i) (wT m o t i)) = _
      rw [hF]; rfl
    have e2 : wFF m o t (i + 1) = if wFF m o t i = -1 then nI i else wFF m o t i := by
      show (if sFl m (o i) (wT m o t i) = true then _ else _) = _
      rw [hF, if_pos rfl]
    rw [e1, e2]
    by_cases y : wF m o t i = 0
    · rw [if_pos y, if_pos ((wF_0 o t hi).mp y)]
    · rw [if_neg y, if_neg (fun z => y ((wF_0 o t hi).mpr z))]
theorem along_loop (hS : SM st m) (hK : KR m) (tx : TTe) (pl o : Nat → Int32) (t : T5) {c : Nat} (hc : c ≤ 48) (ho : ∀ i, i < c → pl i = o i ∧ ORD m (o i)) : ∀ (r f i : Nat) (b : Bool) (f0 : Int32), i + r = c → r < f → ∃ b' f', zf_X6_along_8 pl tx st f (nI c) (nI i) (te5 (wT m o t i) b f0, wH m o t i, wF m o t i, wFF m o t i, wB m o t i, wLR m o t i, wHR m o t i, wHH m o t i, wLC m o t i) = some (te5 (wT m o t c) b' f', wH m o t c, wF m o t c, wFF m o t c, wB m o t c, wLR m o t c, wHR m o t c, wHH m o t c, wLC m o t c)
  | _, 0, _, _, _, _, h => absurd h (Nat.not_lt_zero _)
  | 0, f + 1, i, b, f0, h0, _ => by
    have e : i = c := by omega
    subst e
    unfold zf_X6_along_8
    rw [if_pos (i_le.mpr (Int.le_refl _))]
    exact ⟨b, f0, rfl⟩
  | r + 1, f + 1, i, b, f0, h0, hf => by
    have hq : ¬ nI c ≤ nI i := nle (by omega) (by omega)
    have hq2 : ¬ (48 : Int32) ≤ nI i := nle (a := 48) (by omega) (by decide)
    obtain ⟨f', p1, p2, -⟩ := pass7 hS hK (ho i (by omega)).2 (wT m o t i) b f0
    unfold zf_X6_along_8
    rw [if_neg hq, if_neg hq2, if_pos (ix_nI (by omega) (by decide)), cl_nI (by omega), (ho i (by omega)).1]
    dsimp only
    rw [p1, Option.bind_some]
    have := note7 (m := m) o t (i := i) (by omega) f' p2
    dsimp only [wT] at this
    rw [this, Option.bind_some, nI_1]
    exact along_loop hS hK tx pl o t hc ho r f (i + 1) _ f' (by omega) (by omega)
theorem along7 (hc : RC te st m) (hr : RNG m) (wa : TWa) (pl o : Nat → Int32) {c : Nat} (hcc : c ≤ 48) (ho : ∀ i, i < c → pl i = o i ∧ ORD m (o i)) : ∃ b' f', zf_X6_along (nI c) wa pl te st = some (te5 (wT m o (t5 m) c) b' f', wH m o (t5 m) c, wF m o (t5 m) c, wFF m o (t5 m) c, wB m o (t5 m) c, wLR m o (t5 m) c, wHR m o (t5 m) c, wHH m o (t5 m) c, wLC m o (t5 m) c) := by
  obtain ⟨b', f', h⟩ := along_loop (RC_SM hc) (RNG_KR hr) te pl o (t5 m) hcc ho c FU 0 wa.1.2.2.2.2.2.1 wa.1.2.2.2.2.2.2 (by omega) (by show c < 2000; omega)
  refine ⟨b', f', ?_⟩
  unfold zf_X6_along zf_X6_begin
  rw [becomeT, Option.bind_some, Option.bind_some]
  have e : bk wa.1 te = te5 (wT m o (t5 m) 0) wa.1.2.2.2.2.2.1 wa.1.2.2.2.2.2.2 := bk_te hc wa.1
  have e1 : te.1 = wLR m o (t5 m) 0 := hc.1
  have e2 : te.2.1 = wLC m o (t5 m) 0 := hc.2.1
  refine Eq.trans ?_ h
  rw [← e, e2, e1]
  rfl
