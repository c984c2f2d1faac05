/-! pure rows: rages, nerves -/
variable {te : TTe} {st : TSt} {m : Nat → Int32} {n : Int32} {sh : TSh} {rf rfd ho sz mi : Nat → Int32} {el : Nat → Int64}
def tC (F : Nat → Bool) : Nat → Int32
  | 0 => 0
  | i + 1 => if F i = true then tC F i + 1 else tC F i
def tF (F : Nat → Bool) : Nat → Int32
  | 0 => -1
  | i + 1 => if F i = true then (if tF F i = -1 then nI i else tF F i) else tF F i
def tL (F : Nat → Bool) : Nat → Int32
  | 0 => -1
  | i + 1 => if F i = true then nI i else tL F i
theorem tC_inv (F : Nat → Bool) : ∀ i, i < 1000 → (tC F i = 0 ∧ tF F i = -1) ∨ (∃ a b, 0 < a ∧ a ≤ i ∧ b < i ∧ tC F i = nI a ∧ tF F i = nI b)
  | 0, _ => Or.inl ⟨rfl, rfl⟩
  | i + 1, h => by
    unfold tC tF
    rcases tC_inv F i (by omega) with ⟨e1, e2⟩ | ⟨a, b, h1, h2, h3, e1, e2⟩
    · rw [e1, e2]
      cases F i
      · exact Or.inl ⟨rfl, rfl⟩
      · exact Or.inr ⟨1, i, by omega, by omega, by omega, rfl, rfl⟩
    · rw [e1, e2]
      cases F i
      · exact Or.inr ⟨a, b, h1, by omega, by omega, rfl, rfl⟩
      · refine Or.inr ⟨a + 1, b, by omega, by omega, by omega, nI_1 a, ?_⟩
        rw [if_pos rfl, if_neg (fun y => by have := i_eq.mp y; rw [nI_t (by omega), show (-1 : Int32).toInt = -1 from rfl] at this; omega)]
theorem tC_0 (F : Nat → Bool) {i : Nat} (hi : i < 1000) : tC F i = 0 ↔ tF F i = -1 := by
  rcases tC_inv F i hi with ⟨e1, e2⟩ | ⟨a, b, h1, h2, h3, e1, e2⟩
  · exact ⟨fun _ => e2, fun _ => e1⟩
  · refine ⟨fun y => ?_, fun y => ?_⟩
    · rw [e1] at y
      have := i_eq.mp y
      rw [nI_t (by omega), show (0 : Int32).toInt = 0 from rfl] at this
      omega
    · rw [e2] at y
      have := i_eq.mp y
      rw [nI_t (by omega), show (-1 : Int32).toInt = -1 from rfl] at this
      omega
theorem add7 (F : Nat → Bool) {i : Nat} (hi : i < 1000) (h : F i = true) : zf_X3_add (nI i) (tC F i, tF F i, tL F i) = some (tC F (i + 1), tF F (i + 1), tL F (i + 1)) := by
  unfold zf_X3_add zf_X3_add_12
  conv => rhs; unfold tC tF tL
  rw [if_pos h, if_pos h, if_pos h]
  dsimp only
  by_cases z : tC F i = 0
  · rw [if_pos z, if_pos ((tC_0 F hi).mp z)]
  · rw [if_neg z, if_neg (fun y => z ((tC_0 F hi).mpr y))]
theorem t_no (F : Nat → Bool) {i : Nat} (h : F i = false) : tC F (i + 1) = tC F i ∧ tF F (i + 1) = tF F i ∧ tL F (i + 1) = tL F i := by
  unfold tC tF tL
  rw [h, if_neg Bool.false_ne_true, if_neg Bool.false_ne_true, if_neg Bool.false_ne_true]
  refine ⟨?_, ?_, ?_⟩
  · cases i <;> rfl
  · cases i <;> rfl
  · cases i <;> rfl
theorem ofFit_loop (F : Nat → Bool) {ft : Nat → Int32} (hft : ∀ p, p < 100 → ft p = bI (F p)) (x : Int32) : ∀ (r f i : Nat), i + r = 100 → r < f → zf_X8_ofFit_10 ft f x (tC F i) (tF F i) (tL F i) (nI i) = some (if x = 0 then tC F 100 else if x = 1 then tF F 100 else tL F 100)
  | _, 0, _, _, h => absurd h (Nat.not_lt_zero _)
  | 0, f + 1, i, h0, _ => by
    have e : i = 100 := by omega
    subst e
    unfold zf_X8_ofFit_10
    rw [if_pos (by decide)]
    generalize tC F 100 = A
    generalize tF F 100 = B
    generalize tL F 100 = C
    by_cases z : x = 0
    · rw [if_pos z, if_pos z]
    · rw [if_neg z, if_neg z]
      by_cases z : x = 1
      · rw [if_pos z, if_pos z]
      · rw [if_neg z, if_neg z]
  | r + 1, f + 1, i, h0, hf => by
    unfold zf_X8_ofFit_10 zf_X8_ofFit_41 zf_X8_ofFit_46
    rw [if_neg (le100 (by omega)), if_pos (ix_nI (by omega) (by decide)), cl_nI (by omega), hft i (by omega), nI_1]
    have ih := ofFit_loop F hft x r f (i + 1) (by omega) (by omega)
    cases hF : F i
    · obtain ⟨a, b, c⟩ := t_no F hF
      rw [a, b, c] at ih
      rw [if_pos (show bI false = 0 from rfl)]
      exact ih
    · rw [if_neg (show ¬ bI true = 0 by decide)]
      have ea : tC F (i + 1) = tC F i + 1 := by conv => lhs; unfold tC; rw [if_pos hF]
      have eb : tF F (i + 1) = if tF F i = -1 then nI i else tF F i := by conv => lhs; unfold tF; rw [if_pos hF]
      have ec : tL F (i + 1) = nI i := by conv => lhs; unfold tL; rw [if_pos hF]
      rw [ea, eb, ec] at ih
      by_cases z : tF F i = -1
      · rw [if_pos z] at ih ⊢; exact ih
      · rw [if_neg z] at ih ⊢; exact ih
theorem fits8 (hr : RNG m) {j c : Nat} (hj : j < 8) (hc : c ≤ 20) (hO : ∀ i, i < c → ORD m (twO el j i)) (hT : ∀ i, i < c → (el (40 * j + (2 * i + 1)) = 0 ∨ el (40 * j + (2 * i + 1)) = 1)) (mi : Nat → Int32) (fl : Bool) : ∃ fl', zf_X8_fits (nI j) (nI c) m mi fl el = some (fit m (twO el j) (twW el j) c 0 (t5 m), m, kp 1 m mi, fl') := by
  obtain ⟨fl', k⟩ := fits8_loop (mi := mi) hj hc hO hT c FU 0 (t5 m) m fl (RNG_TR hr) (by omega) (by show c < 2000; omega) (MSt_self m)
  refine ⟨fl', ?_⟩
  unfold zf_X8_fits
  rw [keep1, Option.bind_some]
  exact k
/-- which numbers fit in place q, up to L -/
def ffF (m o : Nat → Int32) (w : Nat → Bool) (c q L : Nat) : Nat → Bool := fun i => decide (i ≤ L) && fit (upd m q (nI i)) o w c 0 (t5 (upd m q (nI i)))
theorem fill_loop {q L : Nat} (hq : q < 39) (hq2 : q ≠ 32) (hL : L ≤ 99) (hR : ∀ i, i ≤ L → RNG (upd m q (nI i))) {j c : Nat} (hj : j < 8) (hc : c ≤ 20) (hO : ∀ i, i < c → ORD m (twO el j i)) (hT : ∀ i, i < c → (el (40 * j + (2 * i + 1)) = 0 ∨ el (40 * j + (2 * i + 1)) = 1)) : ∀ (r f i : Nat) (μ mi : Nat → Int32) (fl : Bool) (ft : Nat → Int32), i + r = 100 → r < f → (∀ p, p ≠ q → μ p = m p) → (∀ p, p < 39 → mi p = m p) → (∀ p, p < i → ft p = bI (ffF m (twO el j) (twW el j) c q L p)) → ∃ mi' fl' ft', zf_X8_fillFit_8 el f (nI j) (nI c) (nI q) (nI L) (nI i) μ mi fl ft = some (m, mi', fl', ft') ∧ ∀ p, p < 100 → ft' p = bI (ffF m (twO el j) (twW el j) c q L p)
  | _, 0, _, _, _, _, _, _, h, _, _, _ => absurd h (Nat.not_lt_zero _)
  | 0, f + 1, i, μ, mi, fl, ft, h0, _, hM, hm, hft => by
    have e : i = 100 := by omega
    subst e
    unfold zf_X8_fillFit_8
    have el0 : zf_X8_lay 0 μ mi = some m := lay_keep (f := mi) (d := 0) (by decide) (fun p hp => hM p (by omega)) (fun p hp => by rw [Nat.mul_zero, Nat.zero_add]; exact hm p hp)
    rw [if_pos (by decide), el0]
    exact ⟨_, _, _, rfl, hft⟩
  | r + 1, f + 1, i, μ, mi, fl, ft, h0, hf, hM, hm, hft => by
    unfold zf_X8_fillFit_8 zf_X8_fillFit_49 zf_X8_fillFit_50
    rw [if_neg (le100 (by omega)), if_pos (ix_nI hq (by decide)), cl_nI (by omega), upd_q hM]
    have hM' : ∀ p, p ≠ q → upd m q (nI i) p = m p := fun p hp => upd_n hp
    have hft' : ∀ v, v = ffF m (twO el j) (twW el j) c q L i → ∀ p, p < i + 1 → upd ft i (bI v) p = bI (ffF m (twO el j) (twW el j) c q L p) := by
      intro v hv p hp
      by_cases e : p = i
      · subst e; rw [upd_s, hv]
      · rw [upd_n e]; exact hft p (by omega)
    by_cases z : i ≤ L
    · have e32 : upd m q (nI i) 32 = m 32 := upd_n (by omega)
      have hO' : ∀ p, p < c → ORD (upd m q (nI i)) (twO el j p) := fun p hp => by
        have := hO p hp
        unfold ORD at this ⊢
        rw [e32]
        exact this
      obtain ⟨fl', k⟩ := fits8 (hR i z) hj hc hO' hT mi fl
      have ev : fit (upd m q (nI i)) (twO el j) (twW el j) c 0 (t5 (upd m q (nI i))) = ffF m (twO el j) (twW el j) c q L i := by
        unfold ffF
        rw [decide_eq_true z, Bool.true_and]
      have hm' : ∀ p, p < 39 → kp 1 (upd m q (nI i)) mi p = m p := fun p hp => (kp1_lo _ _ hp).trans (hm p hp)
      rw [if_neg (show ¬ nI L < nI i from fun y => by have := (nIlt (by omega) (by omega)).mp y; omega), k, Option.bind_some, nI_1]
      dsimp only
      rw [ev]
      cases hF : ffF m (twO el j) (twW el j) c q L i
      · rw [if_neg Bool.false_ne_true, if_pos (ix_nI (by omega) (by decide)), cl_nI (by omega)]
        exact fill_loop hq hq2 hL hR hj hc hO hT r f (i + 1) _ _ _ _ (by omega) (by omega) hM' hm' (hft' false hF.symm)
      · rw [if_pos rfl, if_pos (ix_nI (by omega) (by decide)), cl_nI (by omega)]
        exact fill_loop hq hq2 hL hR hj hc hO hT r f (i + 1) _ _ _ _ (by omega) (by omega) hM' hm' (hft' true hF.symm)
    · rw [if_pos (show nI L < nI i from (nIlt (by omega) (by omega)).mpr (by omega)), if_pos (ix_nI (by omega) (by decide)), cl_nI (by omega), nI_1]
      refine fill_loop hq hq2 hL hR hj hc hO hT r f (i + 1) _ _ _ _ (by omega) (by omega) hM' hm (hft' false ?_)
      unfold ffF
      rw [decide_eq_false z, Bool.false_and]
