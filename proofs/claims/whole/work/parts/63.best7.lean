/-! pure rows: best, the component's side -/
variable {te : TTe} {st : TSt} {m : Nat → Int32} {rf rfd mi : Nat → Int32} {c D : Nat}
def RB (D : Nat) (s : TSe) (b : BB) : Prop := (s.2.2.1 = true → s.1 = nI b.1 ∧ s.2.1 = b.2.1 ∧ ∀ p, p < D → s.2.2.2.2.1 p = b.2.2 p) ∧ (s.2.2.1 = false → b.1 = 5)
theorem va_s {α : Type} (f : Nat → α) (k : Nat) (v : α) : va_up f k v k = v := by simp [va_up]
theorem va_n {α : Type} (f : Nat → α) {k j : Nat} (v : α) (h : j ≠ k) : va_up f k v j = f j := by simp [va_up, h]
theorem cc4 (hD : D ≤ 4) (H R : Int32) (x : Bool) (ro row0 : Nat → Int32) (ts : Nat → TTe) : ∀ (r f i : Nat) (row : Nat → Int32), i + r = D → r < f → row = cpo i ro row0 → zf_X0_compare_l4_81 f (nI D) (nI i) (H, R, x, ro, row, ts) = some (H, R, x, ro, cpo D ro row0, ts)
  | _, 0, _, _, _, h, _ => absurd h (Nat.not_lt_zero _)
  | 0, f + 1, i, row, hi, _, e => by
    have e' : i = D := by omega
    subst e'
    unfold zf_X0_compare_l4_81
    rw [if_pos (i_le.mpr (Int.le_refl _)), e]
  | r + 1, f + 1, i, row, hi, hf, e => by
    unfold zf_X0_compare_l4_81
    rw [if_neg (show ¬ nI D ≤ nI i from nle (by omega) (by omega)), if_neg (show ¬ (4 : Int32) ≤ nI i from nle (a := 4) (by omega) (by decide)), if_pos (ix_nI (by omega) (by decide)), if_pos (ix_nI (by omega) (by decide)), cl_nI (by omega), nI_1]
    exact cc4 hD H R x ro row0 ts r f (i + 1) _ (by omega) (by omega) (by show upd row i (ro i) = _; rw [e, cpo_s])
theorem cm4 (hD : D ≤ 4) {h : Nat} (hh : h ≤ 4) {s : TSe} {b : BB} (hb : b.1 ≤ 5) {t : T5} {o : Nat → Int32} (hT : (s.2.2.2.2.2 4).1 = t.1) (ho : ∀ p, p < D → s.2.2.2.1 p = o p) (hR : RB D s b) : ∃ s', zf_X0_compare_l4 (nI D) (nI h) s = some s' ∧ RB D s' (bLeaf D h t o b) ∧ s'.2.2.2.1 = s.2.2.2.1 ∧ s'.2.2.2.2.2 = s.2.2.2.2.2 := by
  obtain ⟨H, R, x, ro, row, ts⟩ := s
  have e1 := cc4 hD (nI h) t.1 true ro row ts D FU 0 row (by omega) (by show D < 2000; omega) (cpo_0 _ _).symm
  have e2 : zf_X0_compare_l4_62 (nI D) (nI h) t.1 (H, R, x, ro, row, ts) = some (nI h, t.1, true, ro, cpo D ro row, ts) := e1
  have hT' : (ts 4).1 = t.1 := hT
  have hnew : RB D (nI h, t.1, true, ro, cpo D ro row, ts) (h, t.1, cpo D o b.2.2) := ⟨fun _ => ⟨rfl, rfl, fun p hp => by
    show cpo D ro row p = cpo D o b.2.2 p
    unfold cpo
    rw [if_pos hp, if_pos hp]
    exact ho p hp⟩, fun y => by cases y⟩
  unfold zf_X0_compare_l4
  rw [if_neg (by decide), if_neg (by decide)]
  dsimp only
  rw [hT']
  unfold zf_X0_compare_l4_27
  dsimp only
  rw [e2]
  unfold bLeaf
  cases x with
  | false =>
    have hb5 : b.1 = 5 := hR.2 rfl
    rw [if_neg Bool.false_ne_true, if_pos (show bts h t.1 b from Or.inl (by omega))]
    exact ⟨_, rfl, hnew, rfl, rfl⟩
  | true =>
    obtain ⟨g1, g2, g3⟩ := hR.1 rfl
    have g1 : H = nI b.1 := g1
    have g2 : R = b.2.1 := g2
    subst g1 g2
    rw [if_pos rfl]
    by_cases z : b.1 < h
    · rw [if_pos (show nI b.1 < nI h from (nIlt (by omega) (by omega)).mpr z), if_neg (show ¬ bts h t.1 b from fun q => by unfold bts at q; omega)]
      exact ⟨_, rfl, hR, rfl, rfl⟩
    · rw [if_neg (show ¬ nI b.1 < nI h from fun y => z ((nIlt (by omega) (by omega)).mp y))]
      by_cases y : h = b.1
      · rw [if_pos (show nI h = nI b.1 from by rw [y])]
        by_cases x : t.1 < b.2.1
        · rw [if_pos x, if_pos (show bts h t.1 b from Or.inr ⟨y, i_lt.mp x⟩)]
          exact ⟨_, rfl, hnew, rfl, rfl⟩
        · rw [if_neg x, if_neg (show ¬ bts h t.1 b from fun q => by have := i_le.mp (Int32.not_lt.mp x); unfold bts at q; omega)]
          exact ⟨_, rfl, hR, rfl, rfl⟩
      · rw [if_neg (show ¬ nI h = nI b.1 from fun q => y ((nIeq (by omega) (by omega)).mp q)), if_pos (show bts h t.1 b from Or.inl (by omega))]
        exact ⟨_, rfl, hnew, rfl, rfl⟩
theorem ex4 (hc : RC te st m) (hr : RNG m) (hc8 : c ≤ 8) (ec : m 32 = nI c) (hd : 4 ≤ D) (hD : D ≤ 4) {t : T5} {h : Nat} (hh : h ≤ 4) {s : TSe} {b : BB} (hb : b.1 ≤ 5) {o : Nat → Int32} {b' : Bool} {f' : Int32} (hT : s.2.2.2.2.2 4 = te5 t b' f') (ho : ∀ p, p < 4 → s.2.2.2.1 p = o p) (hR : RB D s b) : ∃ s', zf_X0_explore_l4 (nI D) (nI h) s st = some s' ∧ RB D s' (bst m c D (D - 4) t h o b) ∧ (∀ j, j ≤ 4 → s'.2.2.2.2.2 j = s.2.2.2.2.2 j) ∧ (∀ p, p < 4 → s'.2.2.2.1 p = s.2.2.2.1 p) := by
  have h16 : ∃ s', zf_X0_explore_l4_16 st (nI D) (nI h) s = some s' ∧ RB D s' (bst m c D (D - 4) t h o b) ∧ (∀ j, j ≤ 4 → s'.2.2.2.2.2 j = s.2.2.2.2.2 j) ∧ (∀ p, p < 4 → s'.2.2.2.1 p = s.2.2.2.1 p) := by
    unfold zf_X0_explore_l4_16
    · have e : D = 4 := by omega
      subst e
      obtain ⟨s', k1, k2, k3, k4⟩ := cm4 (D := 4) (by decide) (show h ≤ 4 by omega) hb (t := t) (by rw [hT]) ho hR
      rw [if_neg (show ¬ (4 : Int32) < nI 4 by decide), k1]
      exact ⟨s', rfl, by rw [Nat.sub_self]; exact k2, fun j _ => by rw [k4], fun p _ => by rw [k3]⟩
  unfold zf_X0_explore_l4
  cases x : s.2.2.1
  · rw [if_neg Bool.false_ne_true]
    exact h16
  · rw [if_pos rfl]
    by_cases z : nI h ≤ s.1
    · rw [if_pos z]
      exact h16
    · rw [if_neg z]
      refine ⟨s, rfl, ?_, fun _ _ => rfl, fun _ _ => rfl⟩
      have hbh : b.1 < h := by
        have g := (hR.1 x).1
        rw [g] at z
        exact Nat.lt_of_not_le (fun y => z ((nIle (a := h) (b := b.1) (by omega) (by omega)).mpr y))
      rw [good_id _ _ _ _ (good_cut _ _ _ hbh)]
      exact hR
theorem cc3 (hD : D ≤ 4) (H R : Int32) (x : Bool) (ro row0 : Nat → Int32) (ts : Nat → TTe) : ∀ (r f i : Nat) (row : Nat → Int32), i + r = D → r < f → row = cpo i ro row0 → zf_X0_compare_l3_81 f (nI D) (nI i) (H, R, x, ro, row, ts) = some (H, R, x, ro, cpo D ro row0, ts)
  | _, 0, _, _, _, h, _ => absurd h (Nat.not_lt_zero _)
  | 0, f + 1, i, row, hi, _, e => by
    have e' : i = D := by omega
    subst e'
    unfold zf_X0_compare_l3_81
    rw [if_pos (i_le.mpr (Int.le_refl _)), e]
  | r + 1, f + 1, i, row, hi, hf, e => by
    unfold zf_X0_compare_l3_81
    rw [if_neg (show ¬ nI D ≤ nI i from nle (by omega) (by omega)), if_neg (show ¬ (4 : Int32) ≤ nI i from nle (a := 4) (by omega) (by decide)), if_pos (ix_nI (by omega) (by decide)), if_pos (ix_nI (by omega) (by decide)), cl_nI (by omega), nI_1]
    exact cc3 hD H R x ro row0 ts r f (i + 1) _ (by omega) (by omega) (by show upd row i (ro i) = _; rw [e, cpo_s])
theorem cm3 (hD : D ≤ 4) {h : Nat} (hh : h ≤ 4) {s : TSe} {b : BB} (hb : b.1 ≤ 5) {t : T5} {o : Nat → Int32} (hT : (s.2.2.2.2.2 3).1 = t.1) (ho : ∀ p, p < D → s.2.2.2.1 p = o p) (hR : RB D s b) : ∃ s', zf_X0_compare_l3 (nI D) (nI h) s = some s' ∧ RB D s' (bLeaf D h t o b) ∧ s'.2.2.2.1 = s.2.2.2.1 ∧ s'.2.2.2.2.2 = s.2.2.2.2.2 := by
  obtain ⟨H, R, x, ro, row, ts⟩ := s
  have e1 := cc3 hD (nI h) t.1 true ro row ts D FU 0 row (by omega) (by show D < 2000; omega) (cpo_0 _ _).symm
  have e2 : zf_X0_compare_l3_62 (nI D) (nI h) t.1 (H, R, x, ro, row, ts) = some (nI h, t.1, true, ro, cpo D ro row, ts) := e1
  have hT' : (ts 3).1 = t.1 := hT
  have hnew : RB D (nI h, t.1, true, ro, cpo D ro row, ts) (h, t.1, cpo D o b.2.2) := ⟨fun _ => ⟨rfl, rfl, fun p hp => by
    show cpo D ro row p = cpo D o b.2.2 p
    unfold cpo
    rw [if_pos hp, if_pos hp]
    exact ho p hp⟩, fun y => by cases y⟩
  unfold zf_X0_compare_l3
  rw [if_neg (by decide), if_neg (by decide)]
  dsimp only
  rw [hT']
  unfold zf_X0_compare_l3_27
  dsimp only
  rw [e2]
  unfold bLeaf
  cases x with
  | false =>
    have hb5 : b.1 = 5 := hR.2 rfl
    rw [if_neg Bool.false_ne_true, if_pos (show bts h t.1 b from Or.inl (by omega))]
    exact ⟨_, rfl, hnew, rfl, rfl⟩
  | true =>
    obtain ⟨g1, g2, g3⟩ := hR.1 rfl
    have g1 : H = nI b.1 := g1
    have g2 : R = b.2.1 := g2
    subst g1 g2
    rw [if_pos rfl]
    by_cases z : b.1 < h
    · rw [if_pos (show nI b.1 < nI h from (nIlt (by omega) (by omega)).mpr z), if_neg (show ¬ bts h t.1 b from fun q => by unfold bts at q; omega)]
      exact ⟨_, rfl, hR, rfl, rfl⟩
    · rw [if_neg (show ¬ nI b.1 < nI h from fun y => z ((nIlt (by omega) (by omega)).mp y))]
      by_cases y : h = b.1
      · rw [if_pos (show nI h = nI b.1 from by rw [y])]
        by_cases x : t.1 < b.2.1
        · rw [if_pos x, if_pos (show bts h t.1 b from Or.inr ⟨y, i_lt.mp x⟩)]
          exact ⟨_, rfl, hnew, rfl, rfl⟩
        · rw [if_neg x, if_neg (show ¬ bts h t.1 b from fun q => by have := i_le.mp (Int32.not_lt.mp x); unfold bts at q; omega)]
          exact ⟨_, rfl, hR, rfl, rfl⟩
      · rw [if_neg (show ¬ nI h = nI b.1 from fun q => y ((nIeq (by omega) (by omega)).mp q)), if_pos (show bts h t.1 b from Or.inl (by omega))]
        exact ⟨_, rfl, hnew, rfl, rfl⟩
theorem ex3_loop (hc : RC te st m) (hr : RNG m) (hc8 : c ≤ 8) (ec : m 32 = nI c) {q : Nat} (eD : D = 3 + (q + 1)) (hD : D ≤ 4) {t : T5} {h : Nat} (hh : h ≤ 3) (b : BB) (hb : b.1 ≤ 5) (o : Nat → Int32) {b' : Bool} {f' : Int32} : ∀ (r f i : Nat) (s : TSe), i + r = c + 2 → r < f → s.2.2.2.2.2 3 = te5 t b' f' → (∀ p, p < 3 → s.2.2.2.1 p = o p) → RB D s (bfl (fun i b => bst m c D q (sHr m (ordAt c i) t) (h + hN (sHm m (ordAt c i) t)) (upd o 3 (ordAt c i)) b) i b) → (0 < i → good m c q (sHr m (-1) t) (h + hN (sHm m (-1) t)) (bfl (fun i b => bst m c D q (sHr m (ordAt c i) t) (h + hN (sHm m (ordAt c i) t)) (upd o 3 (ordAt c i)) b) i b)) → ∃ s', zf_X0_explore_l3_32 st f (nI D) (nI h) (nI i) s = some s' ∧ RB D s' (bfl (fun i b => bst m c D q (sHr m (ordAt c i) t) (h + hN (sHm m (ordAt c i) t)) (upd o 3 (ordAt c i)) b) (c + 2) b) ∧ (∀ j, j ≤ 3 → s'.2.2.2.2.2 j = s.2.2.2.2.2 j) ∧ (∀ p, p < 3 → s'.2.2.2.1 p = s.2.2.2.1 p)
  | _, 0, _, _, _, h, _, _, _, _ => absurd h (Nat.not_lt_zero _)
  | 0, f + 1, i, s, h0, _, hT, ho, hR, hg => by
    have e : i = c + 2 := by omega
    subst e
    unfold zf_X0_explore_l3_32
    rw [(RC_SM hc).1, ec, show nI c + 2 = nI (c + 2) from nI_add c 2, if_pos (i_le.mpr (Int.le_refl _))]
    exact ⟨s, rfl, hR, fun _ _ => rfl, fun _ _ => rfl⟩
  | r + 1, f + 1, i, s, h0, hf, hT, ho, hR, hg => by
    have hO := ordAt_ORD (m := m) hc8 ec (i := i) (by omega)
    obtain ⟨f2, p1, p2, -⟩ := pass7 (RC_SM hc) (RNG_KR hr) hO t (s.2.2.2.2.2 4).2.2.2.2.2.1 (s.2.2.2.2.2 4).2.2.2.2.2.2
    have hl := ble_1 (bfl_le (f := (fun i b => bst m c D q (sHr m (ordAt c i) t) (h + hN (sHm m (ordAt c i) t)) (upd o 3 (ordAt c i)) b)) (fun i b => bst_le q _ _ _ b) i b)
    have hq := hN_le (sHm m (ordAt c i) t)
    obtain ⟨s1, es1⟩ : ∃ s1 : TSe, s1 = (s.1, s.2.1, s.2.2.1, upd s.2.2.2.1 3 (ordAt c i), s.2.2.2.2.1, va_up s.2.2.2.2.2 4 (te5 (sHr m (ordAt c i) t) (sHm m (ordAt c i) t) f2)) := ⟨_, rfl⟩
    have t1 : s1.2.2.2.2.2 4 = te5 (sHr m (ordAt c i) t) (sHm m (ordAt c i) t) f2 := by
      rw [es1]
      show va_up s.2.2.2.2.2 4 _ 4 = _
      exact va_s _ _ _
    have t2 : ∀ j, j ≤ 3 → s1.2.2.2.2.2 j = s.2.2.2.2.2 j := fun j hj => by rw [es1]; exact va_n _ _ (by omega)
    have t3 : ∀ p, p < 4 → s1.2.2.2.1 p = upd o 3 (ordAt c i) p := fun p hp => by
      rw [es1]
      show upd s.2.2.2.1 3 (ordAt c i) p = _
      by_cases e : p = 3
      · subst e; rw [upd_s, upd_s]
      · rw [upd_n e, upd_n e]; exact ho p (by omega)
    have t4 : ∀ p, p < 3 → s1.2.2.2.1 p = s.2.2.2.1 p := fun p hp => by rw [es1]; exact upd_n (by omega)
    have t5' : RB D s1 (bfl (fun i b => bst m c D q (sHr m (ordAt c i) t) (h + hN (sHm m (ordAt c i) t)) (upd o 3 (ordAt c i)) b) i b) := by rw [es1]; exact hR
    have eb : zf_X0_exploreBy_l3 (ordAt c i) (nI D) (nI h) s st = (if f2 = -1 then (if sHm m (ordAt c i) t = true then zf_X0_exploreBy_l3_77 st (nI h + 1) (nI D) s1 else zf_X0_exploreBy_l3_77 st (nI h) (nI D) s1) else some s1) := by
      unfold zf_X0_exploreBy_l3
      rw [if_neg (show ¬ (3 : Int32) < 0 by decide), if_pos (show (3 : Int32) < 4 by decide), hT, becomeT5 t b' f' (s.2.2.2.2.2 4), Option.bind_some, p1, Option.bind_some, es1]
      try rfl
    have st1 : zf_X0_explore_l3_32 st (f + 1) (nI D) (nI h) (nI i) s = Option.bind (zf_X0_exploreBy_l3 (ordAt c i) (nI D) (nI h) s st) (fun u => zf_X0_explore_l3_32 st f (nI D) (nI h) (nI i + 1) u) := by
      conv => lhs; unfold zf_X0_explore_l3_32
      rw [(RC_SM hc).1, ec, show nI c + 2 = nI (c + 2) from nI_add c 2, if_neg (show ¬ nI (c + 2) ≤ nI i from nle (by omega) (by omega)), ordAt7 (RC_SM hc).1 hc8 ec (by omega), Option.bind_some]
    have es : bfl (fun i b => bst m c D q (sHr m (ordAt c i) t) (h + hN (sHm m (ordAt c i) t)) (upd o 3 (ordAt c i)) b) (i + 1) b = bst m c D q (sHr m (ordAt c i) t) (h + hN (sHm m (ordAt c i) t)) (upd o 3 (ordAt c i)) (bfl (fun i b => bst m c D q (sHr m (ordAt c i) t) (h + hN (sHm m (ordAt c i) t)) (upd o 3 (ordAt c i)) b) i b) := rfl
    rw [st1, eb]
    cases hF : sFl m (ordAt c i) t
    · have st2 : (if sHm m (ordAt c i) t = true then zf_X0_exploreBy_l3_77 st (nI h + 1) (nI D) s1 else zf_X0_exploreBy_l3_77 st (nI h) (nI D) s1) = zf_X0_exploreBy_l3_77 st (nI (h + hN (sHm m (ordAt c i) t))) (nI D) s1 := by
        cases sHm m (ordAt c i) t
        · rw [if_neg Bool.false_ne_true]; rfl
        · rw [if_pos rfl, nI_1]; rfl
      obtain ⟨s2, x1, x2, x3, x4⟩ := ex4 (D := D) hc hr hc8 ec (by omega) hD (t := sHr m (ordAt c i) t) (h := h + hN (sHm m (ordAt c i) t)) (by omega) (s := s1) (b := bfl (fun i b => bst m c D q (sHr m (ordAt c i) t) (h + hN (sHm m (ordAt c i) t)) (upd o 3 (ordAt c i)) b) i b) (by omega) (o := upd o 3 (ordAt c i)) t1 t3 t5'
      rw [show D - 4 = q by omega, ← es] at x2
      rw [if_pos (p2.mpr hF), st2]
      unfold zf_X0_exploreBy_l3_77
      rw [x1, Option.bind_some, Option.bind_some, nI_1]
      obtain ⟨s3, k1, k2, k3, k4⟩ := ex3_loop hc hr hc8 ec eD hD hh b hb o r f (i + 1) s2 (by omega) (by omega) ((x3 3 (by omega)).trans ((t2 3 (by omega)).trans hT)) (fun p hp => (x4 p (by omega)).trans ((t4 p hp).trans (ho p hp))) x2 (fun _ => by
        by_cases z : i = 0
        · subst z
          rw [es]
          have := good_bst (m := m) (c := c) (D := D) q (sHr m (ordAt c 0) t) (h + hN (sHm m (ordAt c 0) t)) (upd o 3 (ordAt c 0)) (bfl (fun i b => bst m c D q (sHr m (ordAt c i) t) (h + hN (sHm m (ordAt c i) t)) (upd o 3 (ordAt c i)) b) 0 b)
          rw [ordAt_0] at *
          exact this
        · exact good_le (bst_le q _ _ _ _) q _ _ (hg (by omega)))
      exact ⟨s3, k1, k2, fun j hj => (k3 j hj).trans ((x3 j (by omega)).trans (t2 j hj)), fun p hp => (k4 p hp).trans ((x4 p (by omega)).trans (t4 p hp))⟩
    · have hi0 : 0 < i := by
        rcases Nat.eq_zero_or_pos i with z | z
        · subst z
          rw [ordAt_0] at hF
          have hF' : sFl m (-1) t = false := rfl
          rw [hF'] at hF
          cases hF
        · exact z
      have em : sMid m (ordAt c i) t = sMid m (-1) t := fl_same hF
      have e1 : sHr m (ordAt c i) t = sHr m (-1) t := by unfold sHr; rw [em]
      have e2 : sHm m (ordAt c i) t = sHm m (-1) t := by unfold sHm; rw [em]
      have es2 : bfl (fun i b => bst m c D q (sHr m (ordAt c i) t) (h + hN (sHm m (ordAt c i) t)) (upd o 3 (ordAt c i)) b) (i + 1) b = bfl (fun i b => bst m c D q (sHr m (ordAt c i) t) (h + hN (sHm m (ordAt c i) t)) (upd o 3 (ordAt c i)) b) i b := by
        rw [es, e1, e2]
        exact good_id q _ _ _ (hg hi0)
      rw [if_neg (fun y => by have := p2.mp y; rw [hF] at this; cases this)]
      rw [Option.bind_some, nI_1]
      obtain ⟨s3, k1, k2, k3, k4⟩ := ex3_loop hc hr hc8 ec eD hD hh b hb o r f (i + 1) s1 (by omega) (by omega) ((t2 3 (by omega)).trans hT) (fun p hp => (t4 p hp).trans (ho p hp)) (by rw [es2]; exact t5') (fun _ => by rw [es2]; exact hg hi0)
      exact ⟨s3, k1, k2, fun j hj => (k3 j hj).trans (t2 j hj), fun p hp => (k4 p hp).trans (t4 p hp)⟩
theorem ex3 (hc : RC te st m) (hr : RNG m) (hc8 : c ≤ 8) (ec : m 32 = nI c) (hd : 3 ≤ D) (hD : D ≤ 4) {t : T5} {h : Nat} (hh : h ≤ 3) {s : TSe} {b : BB} (hb : b.1 ≤ 5) {o : Nat → Int32} {b' : Bool} {f' : Int32} (hT : s.2.2.2.2.2 3 = te5 t b' f') (ho : ∀ p, p < 3 → s.2.2.2.1 p = o p) (hR : RB D s b) : ∃ s', zf_X0_explore_l3 (nI D) (nI h) s st = some s' ∧ RB D s' (bst m c D (D - 3) t h o b) ∧ (∀ j, j ≤ 3 → s'.2.2.2.2.2 j = s.2.2.2.2.2 j) ∧ (∀ p, p < 3 → s'.2.2.2.1 p = s.2.2.2.1 p) := by
  have h16 : ∃ s', zf_X0_explore_l3_16 st (nI D) (nI h) s = some s' ∧ RB D s' (bst m c D (D - 3) t h o b) ∧ (∀ j, j ≤ 3 → s'.2.2.2.2.2 j = s.2.2.2.2.2 j) ∧ (∀ p, p < 3 → s'.2.2.2.1 p = s.2.2.2.1 p) := by
    unfold zf_X0_explore_l3_16
    by_cases e : D = 3
    · subst e
      obtain ⟨s', k1, k2, k3, k4⟩ := cm3 (D := 3) (by decide) (show h ≤ 4 by omega) hb (t := t) (by rw [hT]) ho hR
      rw [if_neg (show ¬ (3 : Int32) < nI 3 by decide), k1]
      exact ⟨s', rfl, by rw [Nat.sub_self]; exact k2, fun j _ => by rw [k4], fun p _ => by rw [k3]⟩
    · obtain ⟨q, eD⟩ : ∃ q, D = 3 + (q + 1) := ⟨D - 4, by omega⟩
      have eq0 : D - 3 = q + 1 := by omega
      have eq2 : D - (q + 1) = 3 := by omega
      obtain ⟨s', k1, k2, k3⟩ := ex3_loop hc hr hc8 ec eD hD hh b hb o (c + 2) FU 0 s (by omega) (by show c + 2 < 2000; omega) hT ho hR (fun y => absurd y (Nat.lt_irrefl _))
      have eb : bst m c D (q + 1) t h o b = bfl (fun i b => bst m c D q (sHr m (ordAt c i) t) (h + hN (sHm m (ordAt c i) t)) (upd o 3 (ordAt c i)) b) (c + 2) b := by
        conv => lhs; unfold bst
        rw [eq2]
      have k1' : zf_X0_explore_l3_32 st FU (nI D) (nI h) 0 s = some s' := k1
      rw [if_pos (Int32.not_le.mp (show ¬ nI D ≤ (3 : Int32) from nle (i := 3) (by omega) (by omega))), k1', eq0, eb]
      exact ⟨s', rfl, k2, k3⟩
  unfold zf_X0_explore_l3
  cases x : s.2.2.1
  · rw [if_neg Bool.false_ne_true]
    exact h16
  · rw [if_pos rfl]
    by_cases z : nI h ≤ s.1
    · rw [if_pos z]
      exact h16
    · rw [if_neg z]
      refine ⟨s, rfl, ?_, fun _ _ => rfl, fun _ _ => rfl⟩
      have hbh : b.1 < h := by
        have g := (hR.1 x).1
        rw [g] at z
        exact Nat.lt_of_not_le (fun y => z ((nIle (a := h) (b := b.1) (by omega) (by omega)).mpr y))
      rw [good_id _ _ _ _ (good_cut _ _ _ hbh)]
      exact hR
theorem cc2 (hD : D ≤ 4) (H R : Int32) (x : Bool) (ro row0 : Nat → Int32) (ts : Nat → TTe) : ∀ (r f i : Nat) (row : Nat → Int32), i + r = D → r < f → row = cpo i ro row0 → zf_X0_compare_l2_81 f (nI D) (nI i) (H, R, x, ro, row, ts) = some (H, R, x, ro, cpo D ro row0, ts)
  | _, 0, _, _, _, h, _ => absurd h (Nat.not_lt_zero _)
  | 0, f + 1, i, row, hi, _, e => by
    have e' : i = D := by omega
    subst e'
    unfold zf_X0_compare_l2_81
    rw [if_pos (i_le.mpr (Int.le_refl _)), e]
  | r + 1, f + 1, i, row, hi, hf, e => by
    unfold zf_X0_compare_l2_81
    rw [if_neg (show ¬ nI D ≤ nI i from nle (by omega) (by omega)), if_neg (show ¬ (4 : Int32) ≤ nI i from nle (a := 4) (by omega) (by decide)), if_pos (ix_nI (by omega) (by decide)), if_pos (ix_nI (by omega) (by decide)), cl_nI (by omega), nI_1]
    exact cc2 hD H R x ro row0 ts r f (i + 1) _ (by omega) (by omega) (by show upd row i (ro i) = _; rw [e, cpo_s])
theorem cm2 (hD : D ≤ 4) {h : Nat} (hh : h ≤ 4) {s : TSe} {b : BB} (hb : b.1 ≤ 5) {t : T5} {o : Nat → Int32} (hT : (s.2.2.2.2.2 2).1 = t.1) (ho : ∀ p, p < D → s.2.2.2.1 p = o p) (hR : RB D s b) : ∃ s', zf_X0_compare_l2 (nI D) (nI h) s = some s' ∧ RB D s' (bLeaf D h t o b) ∧ s'.2.2.2.1 = s.2.2.2.1 ∧ s'.2.2.2.2.2 = s.2.2.2.2.2 := by
  obtain ⟨H, R, x, ro, row, ts⟩ := s
  have e1 := cc2 hD (nI h) t.1 true ro row ts D FU 0 row (by omega) (by show D < 2000; omega) (cpo_0 _ _).symm
  have e2 : zf_X0_compare_l2_62 (nI D) (nI h) t.1 (H, R, x, ro, row, ts) = some (nI h, t.1, true, ro, cpo D ro row, ts) := e1
  have hT' : (ts 2).1 = t.1 := hT
  have hnew : RB D (nI h, t.1, true, ro, cpo D ro row, ts) (h, t.1, cpo D o b.2.2) := ⟨fun _ => ⟨rfl, rfl, fun p hp => by
    show cpo D ro row p = cpo D o b.2.2 p
    unfold cpo
    rw [if_pos hp, if_pos hp]
    exact ho p hp⟩, fun y => by cases y⟩
  unfold zf_X0_compare_l2
  rw [if_neg (by decide), if_neg (by decide)]
  dsimp only
  rw [hT']
  unfold zf_X0_compare_l2_27
  dsimp only
  rw [e2]
  unfold bLeaf
  cases x with
  | false =>
    have hb5 : b.1 = 5 := hR.2 rfl
    rw [if_neg Bool.false_ne_true, if_pos (show bts h t.1 b from Or.inl (by omega))]
    exact ⟨_, rfl, hnew, rfl, rfl⟩
  | true =>
    obtain ⟨g1, g2, g3⟩ := hR.1 rfl
    have g1 : H = nI b.1 := g1
    have g2 : R = b.2.1 := g2
    subst g1 g2
    rw [if_pos rfl]
    by_cases z : b.1 < h
    · rw [if_pos (show nI b.1 < nI h from (nIlt (by omega) (by omega)).mpr z), if_neg (show ¬ bts h t.1 b from fun q => by unfold bts at q; omega)]
      exact ⟨_, rfl, hR, rfl, rfl⟩
    · rw [if_neg (show ¬ nI b.1 < nI h from fun y => z ((nIlt (by omega) (by omega)).mp y))]
      by_cases y : h = b.1
      · rw [if_pos (show nI h = nI b.1 from by rw [y])]
        by_cases x : t.1 < b.2.1
        · rw [if_pos x, if_pos (show bts h t.1 b from Or.inr ⟨y, i_lt.mp x⟩)]
          exact ⟨_, rfl, hnew, rfl, rfl⟩
        · rw [if_neg x, if_neg (show ¬ bts h t.1 b from fun q => by have := i_le.mp (Int32.not_lt.mp x); unfold bts at q; omega)]
          exact ⟨_, rfl, hR, rfl, rfl⟩
      · rw [if_neg (show ¬ nI h = nI b.1 from fun q => y ((nIeq (by omega) (by omega)).mp q)), if_pos (show bts h t.1 b from Or.inl (by omega))]
        exact ⟨_, rfl, hnew, rfl, rfl⟩
theorem ex2_loop (hc : RC te st m) (hr : RNG m) (hc8 : c ≤ 8) (ec : m 32 = nI c) {q : Nat} (eD : D = 2 + (q + 1)) (hD : D ≤ 4) {t : T5} {h : Nat} (hh : h ≤ 2) (b : BB) (hb : b.1 ≤ 5) (o : Nat → Int32) {b' : Bool} {f' : Int32} : ∀ (r f i : Nat) (s : TSe), i + r = c + 2 → r < f → s.2.2.2.2.2 2 = te5 t b' f' → (∀ p, p < 2 → s.2.2.2.1 p = o p) → RB D s (bfl (fun i b => bst m c D q (sHr m (ordAt c i) t) (h + hN (sHm m (ordAt c i) t)) (upd o 2 (ordAt c i)) b) i b) → (0 < i → good m c q (sHr m (-1) t) (h + hN (sHm m (-1) t)) (bfl (fun i b => bst m c D q (sHr m (ordAt c i) t) (h + hN (sHm m (ordAt c i) t)) (upd o 2 (ordAt c i)) b) i b)) → ∃ s', zf_X0_explore_l2_32 st f (nI D) (nI h) (nI i) s = some s' ∧ RB D s' (bfl (fun i b => bst m c D q (sHr m (ordAt c i) t) (h + hN (sHm m (ordAt c i) t)) (upd o 2 (ordAt c i)) b) (c + 2) b) ∧ (∀ j, j ≤ 2 → s'.2.2.2.2.2 j = s.2.2.2.2.2 j) ∧ (∀ p, p < 2 → s'.2.2.2.1 p = s.2.2.2.1 p)
  | _, 0, _, _, _, h, _, _, _, _ => absurd h (Nat.not_lt_zero _)
  | 0, f + 1, i, s, h0, _, hT, ho, hR, hg => by
    have e : i = c + 2 := by omega
    subst e
    unfold zf_X0_explore_l2_32
    rw [(RC_SM hc).1, ec, show nI c + 2 = nI (c + 2) from nI_add c 2, if_pos (i_le.mpr (Int.le_refl _))]
    exact ⟨s, rfl, hR, fun _ _ => rfl, fun _ _ => rfl⟩
  | r + 1, f + 1, i, s, h0, hf, hT, ho, hR, hg => by
    have hO := ordAt_ORD (m := m) hc8 ec (i := i) (by omega)
    obtain ⟨f2, p1, p2, -⟩ := pass7 (RC_SM hc) (RNG_KR hr) hO t (s.2.2.2.2.2 3).2.2.2.2.2.1 (s.2.2.2.2.2 3).2.2.2.2.2.2
    have hl := ble_1 (bfl_le (f := (fun i b => bst m c D q (sHr m (ordAt c i) t) (h + hN (sHm m (ordAt c i) t)) (upd o 2 (ordAt c i)) b)) (fun i b => bst_le q _ _ _ b) i b)
    have hq := hN_le (sHm m (ordAt c i) t)
    obtain ⟨s1, es1⟩ : ∃ s1 : TSe, s1 = (s.1, s.2.1, s.2.2.1, upd s.2.2.2.1 2 (ordAt c i), s.2.2.2.2.1, va_up s.2.2.2.2.2 3 (te5 (sHr m (ordAt c i) t) (sHm m (ordAt c i) t) f2)) := ⟨_, rfl⟩
    have t1 : s1.2.2.2.2.2 3 = te5 (sHr m (ordAt c i) t) (sHm m (ordAt c i) t) f2 := by
      rw [es1]
      show va_up s.2.2.2.2.2 3 _ 3 = _
      exact va_s _ _ _
    have t2 : ∀ j, j ≤ 2 → s1.2.2.2.2.2 j = s.2.2.2.2.2 j := fun j hj => by rw [es1]; exact va_n _ _ (by omega)
    have t3 : ∀ p, p < 3 → s1.2.2.2.1 p = upd o 2 (ordAt c i) p := fun p hp => by
      rw [es1]
      show upd s.2.2.2.1 2 (ordAt c i) p = _
      by_cases e : p = 2
      · subst e; rw [upd_s, upd_s]
      · rw [upd_n e, upd_n e]; exact ho p (by omega)
    have t4 : ∀ p, p < 2 → s1.2.2.2.1 p = s.2.2.2.1 p := fun p hp => by rw [es1]; exact upd_n (by omega)
    have t5' : RB D s1 (bfl (fun i b => bst m c D q (sHr m (ordAt c i) t) (h + hN (sHm m (ordAt c i) t)) (upd o 2 (ordAt c i)) b) i b) := by rw [es1]; exact hR
    have eb : zf_X0_exploreBy_l2 (ordAt c i) (nI D) (nI h) s st = (if f2 = -1 then (if sHm m (ordAt c i) t = true then zf_X0_exploreBy_l2_77 st (nI h + 1) (nI D) s1 else zf_X0_exploreBy_l2_77 st (nI h) (nI D) s1) else some s1) := by
      unfold zf_X0_exploreBy_l2
      rw [if_neg (show ¬ (2 : Int32) < 0 by decide), if_pos (show (2 : Int32) < 4 by decide), hT, becomeT5 t b' f' (s.2.2.2.2.2 3), Option.bind_some, p1, Option.bind_some, es1]
      try rfl
    have st1 : zf_X0_explore_l2_32 st (f + 1) (nI D) (nI h) (nI i) s = Option.bind (zf_X0_exploreBy_l2 (ordAt c i) (nI D) (nI h) s st) (fun u => zf_X0_explore_l2_32 st f (nI D) (nI h) (nI i + 1) u) := by
      conv => lhs; unfold zf_X0_explore_l2_32
      rw [(RC_SM hc).1, ec, show nI c + 2 = nI (c + 2) from nI_add c 2, if_neg (show ¬ nI (c + 2) ≤ nI i from nle (by omega) (by omega)), ordAt7 (RC_SM hc).1 hc8 ec (by omega), Option.bind_some]
    have es : bfl (fun i b => bst m c D q (sHr m (ordAt c i) t) (h + hN (sHm m (ordAt c i) t)) (upd o 2 (ordAt c i)) b) (i + 1) b = bst m c D q (sHr m (ordAt c i) t) (h + hN (sHm m (ordAt c i) t)) (upd o 2 (ordAt c i)) (bfl (fun i b => bst m c D q (sHr m (ordAt c i) t) (h + hN (sHm m (ordAt c i) t)) (upd o 2 (ordAt c i)) b) i b) := rfl
    rw [st1, eb]
    cases hF : sFl m (ordAt c i) t
    · have st2 : (if sHm m (ordAt c i) t = true then zf_X0_exploreBy_l2_77 st (nI h + 1) (nI D) s1 else zf_X0_exploreBy_l2_77 st (nI h) (nI D) s1) = zf_X0_exploreBy_l2_77 st (nI (h + hN (sHm m (ordAt c i) t))) (nI D) s1 := by
        cases sHm m (ordAt c i) t
        · rw [if_neg Bool.false_ne_true]; rfl
        · rw [if_pos rfl, nI_1]; rfl
      obtain ⟨s2, x1, x2, x3, x4⟩ := ex3 (D := D) hc hr hc8 ec (by omega) hD (t := sHr m (ordAt c i) t) (h := h + hN (sHm m (ordAt c i) t)) (by omega) (s := s1) (b := bfl (fun i b => bst m c D q (sHr m (ordAt c i) t) (h + hN (sHm m (ordAt c i) t)) (upd o 2 (ordAt c i)) b) i b) (by omega) (o := upd o 2 (ordAt c i)) t1 t3 t5'
      rw [show D - 3 = q by omega, ← es] at x2
      rw [if_pos (p2.mpr hF), st2]
      unfold zf_X0_exploreBy_l2_77
      rw [x1, Option.bind_some, Option.bind_some, nI_1]
      obtain ⟨s3, k1, k2, k3, k4⟩ := ex2_loop hc hr hc8 ec eD hD hh b hb o r f (i + 1) s2 (by omega) (by omega) ((x3 2 (by omega)).trans ((t2 2 (by omega)).trans hT)) (fun p hp => (x4 p (by omega)).trans ((t4 p hp).trans (ho p hp))) x2 (fun _ => by
        by_cases z : i = 0
        · subst z
          rw [es]
          have := good_bst (m := m) (c := c) (D := D) q (sHr m (ordAt c 0) t) (h + hN (sHm m (ordAt c 0) t)) (upd o 2 (ordAt c 0)) (bfl (fun i b => bst m c D q (sHr m (ordAt c i) t) (h + hN (sHm m (ordAt c i) t)) (upd o 2 (ordAt c i)) b) 0 b)
          rw [ordAt_0] at *
          exact this
        · exact good_le (bst_le q _ _ _ _) q _ _ (hg (by omega)))
      exact ⟨s3, k1, k2, fun j hj => (k3 j hj).trans ((x3 j (by omega)).trans (t2 j hj)), fun p hp => (k4 p hp).trans ((x4 p (by omega)).trans (t4 p hp))⟩
    · have hi0 : 0 < i := by
        rcases Nat.eq_zero_or_pos i with z | z
        · subst z
          rw [ordAt_0] at hF
          have hF' : sFl m (-1) t = false := rfl
          rw [hF'] at hF
          cases hF
        · exact z
      have em : sMid m (ordAt c i) t = sMid m (-1) t := fl_same hF
      have e1 : sHr m (ordAt c i) t = sHr m (-1) t := by unfold sHr; rw [em]
      have e2 : sHm m (ordAt c i) t = sHm m (-1) t := by unfold sHm; rw [em]
      have es2 : bfl (fun i b => bst m c D q (sHr m (ordAt c i) t) (h + hN (sHm m (ordAt c i) t)) (upd o 2 (ordAt c i)) b) (i + 1) b = bfl (fun i b => bst m c D q (sHr m (ordAt c i) t) (h + hN (sHm m (ordAt c i) t)) (upd o 2 (ordAt c i)) b) i b := by
        rw [es, e1, e2]
        exact good_id q _ _ _ (hg hi0)
      rw [if_neg (fun y => by have := p2.mp y; rw [hF] at this; cases this)]
      rw [Option.bind_some, nI_1]
      obtain ⟨s3, k1, k2, k3, k4⟩ := ex2_loop hc hr hc8 ec eD hD hh b hb o r f (i + 1) s1 (by omega) (by omega) ((t2 2 (by omega)).trans hT) (fun p hp => (t4 p hp).trans (ho p hp)) (by rw [es2]; exact t5') (fun _ => by rw [es2]; exact hg hi0)
      exact ⟨s3, k1, k2, fun j hj => (k3 j hj).trans (t2 j hj), fun p hp => (k4 p hp).trans (t4 p hp)⟩
theorem ex2 (hc : RC te st m) (hr : RNG m) (hc8 : c ≤ 8) (ec : m 32 = nI c) (hd : 2 ≤ D) (hD : D ≤ 4) {t : T5} {h : Nat} (hh : h ≤ 2) {s : TSe} {b : BB} (hb : b.1 ≤ 5) {o : Nat → Int32} {b' : Bool} {f' : Int32} (hT : s.2.2.2.2.2 2 = te5 t b' f') (ho : ∀ p, p < 2 → s.2.2.2.1 p = o p) (hR : RB D s b) : ∃ s', zf_X0_explore_l2 (nI D) (nI h) s st = some s' ∧ RB D s' (bst m c D (D - 2) t h o b) ∧ (∀ j, j ≤ 2 → s'.2.2.2.2.2 j = s.2.2.2.2.2 j) ∧ (∀ p, p < 2 → s'.2.2.2.1 p = s.2.2.2.1 p) := by
  have h16 : ∃ s', zf_X0_explore_l2_16 st (nI D) (nI h) s = some s' ∧ RB D s' (bst m c D (D - 2) t h o b) ∧ (∀ j, j ≤ 2 → s'.2.2.2.2.2 j = s.2.2.2.2.2 j) ∧ (∀ p, p < 2 → s'.2.2.2.1 p = s.2.2.2.1 p) := by
    unfold zf_X0_explore_l2_16
    by_cases e : D = 2
    · subst e
      obtain ⟨s', k1, k2, k3, k4⟩ := cm2 (D := 2) (by decide) (show h ≤ 4 by omega) hb (t := t) (by rw [hT]) ho hR
      rw [if_neg (show ¬ (2 : Int32) < nI 2 by decide), k1]
      exact ⟨s', rfl, by rw [Nat.sub_self]; exact k2, fun j _ => by rw [k4], fun p _ => by rw [k3]⟩
    · obtain ⟨q, eD⟩ : ∃ q, D = 2 + (q + 1) := ⟨D - 3, by omega⟩
      have eq0 : D - 2 = q + 1 := by omega
      have eq2 : D - (q + 1) = 2 := by omega
      obtain ⟨s', k1, k2, k3⟩ := ex2_loop hc hr hc8 ec eD hD hh b hb o (c + 2) FU 0 s (by omega) (by show c + 2 < 2000; omega) hT ho hR (fun y => absurd y (Nat.lt_irrefl _))
      have eb : bst m c D (q + 1) t h o b = bfl (fun i b => bst m c D q (sHr m (ordAt c i) t) (h + hN (sHm m (ordAt c i) t)) (upd o 2 (ordAt c i)) b) (c + 2) b := by
        conv => lhs; unfold bst
        rw [eq2]
      have k1' : zf_X0_explore_l2_32 st FU (nI D) (nI h) 0 s = some s' := k1
      rw [if_pos (Int32.not_le.mp (show ¬ nI D ≤ (2 : Int32) from nle (i := 2) (by omega) (by omega))), k1', eq0, eb]
      exact ⟨s', rfl, k2, k3⟩
  unfold zf_X0_explore_l2
  cases x : s.2.2.1
  · rw [if_neg Bool.false_ne_true]
    exact h16
  · rw [if_pos rfl]
    by_cases z : nI h ≤ s.1
    · rw [if_pos z]
      exact h16
    · rw [if_neg z]
      refine ⟨s, rfl, ?_, fun _ _ => rfl, fun _ _ => rfl⟩
      have hbh : b.1 < h := by
        have g := (hR.1 x).1
        rw [g] at z
        exact Nat.lt_of_not_le (fun y => z ((nIle (a := h) (b := b.1) (by omega) (by omega)).mpr y))
      rw [good_id _ _ _ _ (good_cut _ _ _ hbh)]
      exact hR
theorem cc1 (hD : D ≤ 4) (H R : Int32) (x : Bool) (ro row0 : Nat → Int32) (ts : Nat → TTe) : ∀ (r f i : Nat) (row : Nat → Int32), i + r = D → r < f → row = cpo i ro row0 → zf_X0_compare_l1_81 f (nI D) (nI i) (H, R, x, ro, row, ts) = some (H, R, x, ro, cpo D ro row0, ts)
  | _, 0, _, _, _, h, _ => absurd h (Nat.not_lt_zero _)
  | 0, f + 1, i, row, hi, _, e => by
    have e' : i = D := by omega
    subst e'
    unfold zf_X0_compare_l1_81
    rw [if_pos (i_le.mpr (Int.le_refl _)), e]
  | r + 1, f + 1, i, row, hi, hf, e => by
    unfold zf_X0_compare_l1_81
    rw [if_neg (show ¬ nI D ≤ nI i from nle (by omega) (by omega)), if_neg (show ¬ (4 : Int32) ≤ nI i from nle (a := 4) (by omega) (by decide)), if_pos (ix_nI (by omega) (by decide)), if_pos (ix_nI (by omega) (by decide)), cl_nI (by omega), nI_1]
    exact cc1 hD H R x ro row0 ts r f (i + 1) _ (by omega) (by omega) (by show upd row i (ro i) = _; rw [e, cpo_s])
theorem cm1 (hD : D ≤ 4) {h : Nat} (hh : h ≤ 4) {s : TSe} {b : BB} (hb : b.1 ≤ 5) {t : T5} {o : Nat → Int32} (hT : (s.2.2.2.2.2 1).1 = t.1) (ho : ∀ p, p < D → s.2.2.2.1 p = o p) (hR : RB D s b) : ∃ s', zf_X0_compare_l1 (nI D) (nI h) s = some s' ∧ RB D s' (bLeaf D h t o b) ∧ s'.2.2.2.1 = s.2.2.2.1 ∧ s'.2.2.2.2.2 = s.2.2.2.2.2 := by
  obtain ⟨H, R, x, ro, row, ts⟩ := s
  have e1 := cc1 hD (nI h) t.1 true ro row ts D FU 0 row (by omega) (by show D < 2000; omega) (cpo_0 _ _).symm
  have e2 : zf_X0_compare_l1_62 (nI D) (nI h) t.1 (H, R, x, ro, row, ts) = some (nI h, t.1, true, ro, cpo D ro row, ts) := e1
  have hT' : (ts 1).1 = t.1 := hT
  have hnew : RB D (nI h, t.1, true, ro, cpo D ro row, ts) (h, t.1, cpo D o b.2.2) := ⟨fun _ => ⟨rfl, rfl, fun p hp => by
    show cpo D ro row p = cpo D o b.2.2 p
    unfold cpo
    rw [if_pos hp, if_pos hp]
    exact ho p hp⟩, fun y => by cases y⟩
  unfold zf_X0_compare_l1
  rw [if_neg (by decide), if_neg (by decide)]
  dsimp only
  rw [hT']
  unfold zf_X0_compare_l1_27
  dsimp only
  rw [e2]
  unfold bLeaf
  cases x with
  | false =>
    have hb5 : b.1 = 5 := hR.2 rfl
    rw [if_neg Bool.false_ne_true, if_pos (show bts h t.1 b from Or.inl (by omega))]
    exact ⟨_, rfl, hnew, rfl, rfl⟩
  | true =>
    obtain ⟨g1, g2, g3⟩ := hR.1 rfl
    have g1 : H = nI b.1 := g1
    have g2 : R = b.2.1 := g2
    subst g1 g2
    rw [if_pos rfl]
    by_cases z : b.1 < h
    · rw [if_pos (show nI b.1 < nI h from (nIlt (by omega) (by omega)).mpr z), if_neg (show ¬ bts h t.1 b from fun q => by unfold bts at q; omega)]
      exact ⟨_, rfl, hR, rfl, rfl⟩
    · rw [if_neg (show ¬ nI b.1 < nI h from fun y => z ((nIlt (by omega) (by omega)).mp y))]
      by_cases y : h = b.1
      · rw [if_pos (show nI h = nI b.1 from by rw [y])]
        by_cases x : t.1 < b.2.1
        · rw [if_pos x, if_pos (show bts h t.1 b from Or.inr ⟨y, i_lt.mp x⟩)]
          exact ⟨_, rfl, hnew, rfl, rfl⟩
        · rw [if_neg x, if_neg (show ¬ bts h t.1 b from fun q => by have := i_le.mp (Int32.not_lt.mp x); unfold bts at q; omega)]
          exact ⟨_, rfl, hR, rfl, rfl⟩
      · rw [if_neg (show ¬ nI h = nI b.1 from fun q => y ((nIeq (by omega) (by omega)).mp q)), if_pos (show bts h t.1 b from Or.inl (by omega))]
        exact ⟨_, rfl, hnew, rfl, rfl⟩
theorem ex1_loop (hc : RC te st m) (hr : RNG m) (hc8 : c ≤ 8) (ec : m 32 = nI c) {q : Nat} (eD : D = 1 + (q + 1)) (hD : D ≤ 4) {t : T5} {h : Nat} (hh : h ≤ 1) (b : BB) (hb : b.1 ≤ 5) (o : Nat → Int32) {b' : Bool} {f' : Int32} : ∀ (r f i : Nat) (s : TSe), i + r = c + 2 → r < f → s.2.2.2.2.2 1 = te5 t b' f' → (∀ p, p < 1 → s.2.2.2.1 p = o p) → RB D s (bfl (fun i b => bst m c D q (sHr m (ordAt c i) t) (h + hN (sHm m (ordAt c i) t)) (upd o 1 (ordAt c i)) b) i b) → (0 < i → good m c q (sHr m (-1) t) (h + hN (sHm m (-1) t)) (bfl (fun i b => bst m c D q (sHr m (ordAt c i) t) (h + hN (sHm m (ordAt c i) t)) (upd o 1 (ordAt c i)) b) i b)) → ∃ s', zf_X0_explore_l1_32 st f (nI D) (nI h) (nI i) s = some s' ∧ RB D s' (bfl (fun i b => bst m c D q (sHr m (ordAt c i) t) (h + hN (sHm m (ordAt c i) t)) (upd o 1 (ordAt c i)) b) (c + 2) b) ∧ (∀ j, j ≤ 1 → s'.2.2.2.2.2 j = s.2.2.2.2.2 j) ∧ (∀ p, p < 1 → s'.2.2.2.1 p = s.2.2.2.1 p)
  | _, 0, _, _, _, h, _, _, _, _ => absurd h (Nat.not_lt_zero _)
  | 0, f + 1, i, s, h0, _, hT, ho, hR, hg => by
    have e : i = c + 2 := by omega
    subst e
    unfold zf_X0_explore_l1_32
    rw [(RC_SM hc).1, ec, show nI c + 2 = nI (c + 2) from nI_add c 2, if_pos (i_le.mpr (Int.le_refl _))]
    exact ⟨s, rfl, hR, fun _ _ => rfl, fun _ _ => rfl⟩
  | r + 1, f + 1, i, s, h0, hf, hT, ho, hR, hg => by
    have hO := ordAt_ORD (m := m) hc8 ec (i := i) (by omega)
    obtain ⟨f2, p1, p2, -⟩ := pass7 (RC_SM hc) (RNG_KR hr) hO t (s.2.2.2.2.2 2).2.2.2.2.2.1 (s.2.2.2.2.2 2).2.2.2.2.2.2
    have hl := ble_1 (bfl_le (f := (fun i b => bst m c D q (sHr m (ordAt c i) t) (h + hN (sHm m (ordAt c i) t)) (upd o 1 (ordAt c i)) b)) (fun i b => bst_le q _ _ _ b) i b)
    have hq := hN_le (sHm m (ordAt c i) t)
    obtain ⟨s1, es1⟩ : ∃ s1 : TSe, s1 = (s.1, s.2.1, s.2.2.1, upd s.2.2.2.1 1 (ordAt c i), s.2.2.2.2.1, va_up s.2.2.2.2.2 2 (te5 (sHr m (ordAt c i) t) (sHm m (ordAt c i) t) f2)) := ⟨_, rfl⟩
    have t1 : s1.2.2.2.2.2 2 = te5 (sHr m (ordAt c i) t) (sHm m (ordAt c i) t) f2 := by
      rw [es1]
      show va_up s.2.2.2.2.2 2 _ 2 = _
      exact va_s _ _ _
    have t2 : ∀ j, j ≤ 1 → s1.2.2.2.2.2 j = s.2.2.2.2.2 j := fun j hj => by rw [es1]; exact va_n _ _ (by omega)
    have t3 : ∀ p, p < 2 → s1.2.2.2.1 p = upd o 1 (ordAt c i) p := fun p hp => by
      rw [es1]
      show upd s.2.2.2.1 1 (ordAt c i) p = _
      by_cases e : p = 1
      · subst e; rw [upd_s, upd_s]
      · rw [upd_n e, upd_n e]; exact ho p (by omega)
    have t4 : ∀ p, p < 1 → s1.2.2.2.1 p = s.2.2.2.1 p := fun p hp => by rw [es1]; exact upd_n (by omega)
    have t5' : RB D s1 (bfl (fun i b => bst m c D q (sHr m (ordAt c i) t) (h + hN (sHm m (ordAt c i) t)) (upd o 1 (ordAt c i)) b) i b) := by rw [es1]; exact hR
    have eb : zf_X0_exploreBy_l1 (ordAt c i) (nI D) (nI h) s st = (if f2 = -1 then (if sHm m (ordAt c i) t = true then zf_X0_exploreBy_l1_77 st (nI h + 1) (nI D) s1 else zf_X0_exploreBy_l1_77 st (nI h) (nI D) s1) else some s1) := by
      unfold zf_X0_exploreBy_l1
      rw [if_neg (show ¬ (1 : Int32) < 0 by decide), if_pos (show (1 : Int32) < 4 by decide), hT, becomeT5 t b' f' (s.2.2.2.2.2 2), Option.bind_some, p1, Option.bind_some, es1]
      try rfl
    have st1 : zf_X0_explore_l1_32 st (f + 1) (nI D) (nI h) (nI i) s = Option.bind (zf_X0_exploreBy_l1 (ordAt c i) (nI D) (nI h) s st) (fun u => zf_X0_explore_l1_32 st f (nI D) (nI h) (nI i + 1) u) := by
      conv => lhs; unfold zf_X0_explore_l1_32
      rw [(RC_SM hc).1, ec, show nI c + 2 = nI (c + 2) from nI_add c 2, if_neg (show ¬ nI (c + 2) ≤ nI i from nle (by omega) (by omega)), ordAt7 (RC_SM hc).1 hc8 ec (by omega), Option.bind_some]
    have es : bfl (fun i b => bst m c D q (sHr m (ordAt c i) t) (h + hN (sHm m (ordAt c i) t)) (upd o 1 (ordAt c i)) b) (i + 1) b = bst m c D q (sHr m (ordAt c i) t) (h + hN (sHm m (ordAt c i) t)) (upd o 1 (ordAt c i)) (bfl (fun i b => bst m c D q (sHr m (ordAt c i) t) (h + hN (sHm m (ordAt c i) t)) (upd o 1 (ordAt c i)) b) i b) := rfl
    rw [st1, eb]
    cases hF : sFl m (ordAt c i) t
    · have st2 : (if sHm m (ordAt c i) t = true then zf_X0_exploreBy_l1_77 st (nI h + 1) (nI D) s1 else zf_X0_exploreBy_l1_77 st (nI h) (nI D) s1) = zf_X0_exploreBy_l1_77 st (nI (h + hN (sHm m (ordAt c i) t))) (nI D) s1 := by
        cases sHm m (ordAt c i) t
        · rw [if_neg Bool.false_ne_true]; rfl
        · rw [if_pos rfl, nI_1]; rfl
      obtain ⟨s2, x1, x2, x3, x4⟩ := ex2 (D := D) hc hr hc8 ec (by omega) hD (t := sHr m (ordAt c i) t) (h := h + hN (sHm m (ordAt c i) t)) (by omega) (s := s1) (b := bfl (fun i b => bst m c D q (sHr m (ordAt c i) t) (h + hN (sHm m (ordAt c i) t)) (upd o 1 (ordAt c i)) b) i b) (by omega) (o := upd o 1 (ordAt c i)) t1 t3 t5'
      rw [show D - 2 = q by omega, ← es] at x2
      rw [if_pos (p2.mpr hF), st2]
      unfold zf_X0_exploreBy_l1_77
      rw [x1, Option.bind_some, Option.bind_some, nI_1]
      obtain ⟨s3, k1, k2, k3, k4⟩ := ex1_loop hc hr hc8 ec eD hD hh b hb o r f (i + 1) s2 (by omega) (by omega) ((x3 1 (by omega)).trans ((t2 1 (by omega)).trans hT)) (fun p hp => (x4 p (by omega)).trans ((t4 p hp).trans (ho p hp))) x2 (fun _ => by
        by_cases z : i = 0
        · subst z
          rw [es]
          have := good_bst (m := m) (c := c) (D := D) q (sHr m (ordAt c 0) t) (h + hN (sHm m (ordAt c 0) t)) (upd o 1 (ordAt c 0)) (bfl (fun i b => bst m c D q (sHr m (ordAt c i) t) (h + hN (sHm m (ordAt c i) t)) (upd o 1 (ordAt c i)) b) 0 b)
          rw [ordAt_0] at *
          exact this
        · exact good_le (bst_le q _ _ _ _) q _ _ (hg (by omega)))
      exact ⟨s3, k1, k2, fun j hj => (k3 j hj).trans ((x3 j (by omega)).trans (t2 j hj)), fun p hp => (k4 p hp).trans ((x4 p (by omega)).trans (t4 p hp))⟩
    · have hi0 : 0 < i := by
        rcases Nat.eq_zero_or_pos i with z | z
        · subst z
          rw [ordAt_0] at hF
          have hF' : sFl m (-1) t = false := rfl
          rw [hF'] at hF
          cases hF
        · exact z
      have em : sMid m (ordAt c i) t = sMid m (-1) t := fl_same hF
      have e1 : sHr m (ordAt c i) t = sHr m (-1) t := by unfold sHr; rw [em]
      have e2 : sHm m (ordAt c i) t = sHm m (-1) t := by unfold sHm; rw [em]
      have es2 : bfl (fun i b => bst m c D q (sHr m (ordAt c i) t) (h + hN (sHm m (ordAt c i) t)) (upd o 1 (ordAt c i)) b) (i + 1) b = bfl (fun i b => bst m c D q (sHr m (ordAt c i) t) (h + hN (sHm m (ordAt c i) t)) (upd o 1 (ordAt c i)) b) i b := by
        rw [es, e1, e2]
        exact good_id q _ _ _ (hg hi0)
      rw [if_neg (fun y => by have := p2.mp y; rw [hF] at this; cases this)]
      rw [Option.bind_some, nI_1]
      obtain ⟨s3, k1, k2, k3, k4⟩ := ex1_loop hc hr hc8 ec eD hD hh b hb o r f (i + 1) s1 (by omega) (by omega) ((t2 1 (by omega)).trans hT) (fun p hp => (t4 p hp).trans (ho p hp)) (by rw [es2]; exact t5') (fun _ => by rw [es2]; exact hg hi0)
      exact ⟨s3, k1, k2, fun j hj => (k3 j hj).trans (t2 j hj), fun p hp => (k4 p hp).trans (t4 p hp)⟩
theorem ex1 (hc : RC te st m) (hr : RNG m) (hc8 : c ≤ 8) (ec : m 32 = nI c) (hd : 1 ≤ D) (hD : D ≤ 4) {t : T5} {h : Nat} (hh : h ≤ 1) {s : TSe} {b : BB} (hb : b.1 ≤ 5) {o : Nat → Int32} {b' : Bool} {f' : Int32} (hT : s.2.2.2.2.2 1 = te5 t b' f') (ho : ∀ p, p < 1 → s.2.2.2.1 p = o p) (hR : RB D s b) : ∃ s', zf_X0_explore_l1 (nI D) (nI h) s st = some s' ∧ RB D s' (bst m c D (D - 1) t h o b) ∧ (∀ j, j ≤ 1 → s'.2.2.2.2.2 j = s.2.2.2.2.2 j) ∧ (∀ p, p < 1 → s'.2.2.2.1 p = s.2.2.2.1 p) := by
  have h16 : ∃ s', zf_X0_explore_l1_16 st (nI D) (nI h) s = some s' ∧ RB D s' (bst m c D (D - 1) t h o b) ∧ (∀ j, j ≤ 1 → s'.2.2.2.2.2 j = s.2.2.2.2.2 j) ∧ (∀ p, p < 1 → s'.2.2.2.1 p = s.2.2.2.1 p) := by
    unfold zf_X0_explore_l1_16
    by_cases e : D = 1
    · subst e
      obtain ⟨s', k1, k2, k3, k4⟩ := cm1 (D := 1) (by decide) (show h ≤ 4 by omega) hb (t := t) (by rw [hT]) ho hR
      rw [if_neg (show ¬ (1 : Int32) < nI 1 by decide), k1]
      exact ⟨s', rfl, by rw [Nat.sub_self]; exact k2, fun j _ => by rw [k4], fun p _ => by rw [k3]⟩
    · obtain ⟨q, eD⟩ : ∃ q, D = 1 + (q + 1) := ⟨D - 2, by omega⟩
      have eq0 : D - 1 = q + 1 := by omega
      have eq2 : D - (q + 1) = 1 := by omega
      obtain ⟨s', k1, k2, k3⟩ := ex1_loop hc hr hc8 ec eD hD hh b hb o (c + 2) FU 0 s (by omega) (by show c + 2 < 2000; omega) hT ho hR (fun y => absurd y (Nat.lt_irrefl _))
      have eb : bst m c D (q + 1) t h o b = bfl (fun i b => bst m c D q (sHr m (ordAt c i) t) (h + hN (sHm m (ordAt c i) t)) (upd o 1 (ordAt c i)) b) (c + 2) b := by
        conv => lhs; unfold bst
        rw [eq2]
      have k1' : zf_X0_explore_l1_32 st FU (nI D) (nI h) 0 s = some s' := k1
      rw [if_pos (Int32.not_le.mp (show ¬ nI D ≤ (1 : Int32) from nle (i := 1) (by omega) (by omega))), k1', eq0, eb]
      exact ⟨s', rfl, k2, k3⟩
  unfold zf_X0_explore_l1
  cases x : s.2.2.1
  · rw [if_neg Bool.false_ne_true]
    exact h16
  · rw [if_pos rfl]
    by_cases z : nI h ≤ s.1
    · rw [if_pos z]
      exact h16
    · rw [if_neg z]
      refine ⟨s, rfl, ?_, fun _ _ => rfl, fun _ _ => rfl⟩
      have hbh : b.1 < h := by
        have g := (hR.1 x).1
        rw [g] at z
        exact Nat.lt_of_not_le (fun y => z ((nIle (a := h) (b := b.1) (by omega) (by omega)).mpr y))
      rw [good_id _ _ _ _ (good_cut _ _ _ hbh)]
      exact hR
theorem cc0 (hD : D ≤ 4) (H R : Int32) (x : Bool) (ro row0 : Nat → Int32) (ts : Nat → TTe) : ∀ (r f i : Nat) (row : Nat → Int32), i + r = D → r < f → row = cpo i ro row0 → zf_X0_compare_l0_81 f (nI D) (nI i) (H, R, x, ro, row, ts) = some (H, R, x, ro, cpo D ro row0, ts)
  | _, 0, _, _, _, h, _ => absurd h (Nat.not_lt_zero _)
  | 0, f + 1, i, row, hi, _, e => by
    have e' : i = D := by omega
    subst e'
    unfold zf_X0_compare_l0_81
    rw [if_pos (i_le.mpr (Int.le_refl _)), e]
  | r + 1, f + 1, i, row, hi, hf, e => by
    unfold zf_X0_compare_l0_81
    rw [if_neg (show ¬ nI D ≤ nI i from nle (by omega) (by omega)), if_neg (show ¬ (4 : Int32) ≤ nI i from nle (a := 4) (by omega) (by decide)), if_pos (ix_nI (by omega) (by decide)), if_pos (ix_nI (by omega) (by decide)), cl_nI (by omega), nI_1]
    exact cc0 hD H R x ro row0 ts r f (i + 1) _ (by omega) (by omega) (by show upd row i (ro i) = _; rw [e, cpo_s])
theorem cm0 (hD : D ≤ 4) {h : Nat} (hh : h ≤ 4) {s : TSe} {b : BB} (hb : b.1 ≤ 5) {t : T5} {o : Nat → Int32} (hT : (s.2.2.2.2.2 0).1 = t.1) (ho : ∀ p, p < D → s.2.2.2.1 p = o p) (hR : RB D s b) : ∃ s', zf_X0_compare_l0 (nI D) (nI h) s = some s' ∧ RB D s' (bLeaf D h t o b) ∧ s'.2.2.2.1 = s.2.2.2.1 ∧ s'.2.2.2.2.2 = s.2.2.2.2.2 := by
  obtain ⟨H, R, x, ro, row, ts⟩ := s
  have e1 := cc0 hD (nI h) t.1 true ro row ts D FU 0 row (by omega) (by show D < 2000; omega) (cpo_0 _ _).symm
  have e2 : zf_X0_compare_l0_62 (nI D) (nI h) t.1 (H, R, x, ro, row, ts) = some (nI h, t.1, true, ro, cpo D ro row, ts) := e1
  have hT' : (ts 0).1 = t.1 := hT
  have hnew : RB D (nI h, t.1, true, ro, cpo D ro row, ts) (h, t.1, cpo D o b.2.2) := ⟨fun _ => ⟨rfl, rfl, fun p hp => by
    show cpo D ro row p = cpo D o b.2.2 p
    unfold cpo
    rw [if_pos hp, if_pos hp]
    exact ho p hp⟩, fun y => by cases y⟩
  unfold zf_X0_compare_l0
  rw [if_neg (by decide), if_neg (by decide)]
  dsimp only
  rw [hT']
  unfold zf_X0_compare_l0_27
  dsimp only
  rw [e2]
  unfold bLeaf
  cases x with
  | false =>
    have hb5 : b.1 = 5 := hR.2 rfl
    rw [if_neg Bool.false_ne_true, if_pos (show bts h t.1 b from Or.inl (by omega))]
    exact ⟨_, rfl, hnew, rfl, rfl⟩
  | true =>
    obtain ⟨g1, g2, g3⟩ := hR.1 rfl
    have g1 : H = nI b.1 := g1
    have g2 : R = b.2.1 := g2
    subst g1 g2
    rw [if_pos rfl]
    by_cases z : b.1 < h
    · rw [if_pos (show nI b.1 < nI h from (nIlt (by omega) (by omega)).mpr z), if_neg (show ¬ bts h t.1 b from fun q => by unfold bts at q; omega)]
      exact ⟨_, rfl, hR, rfl, rfl⟩
    · rw [if_neg (show ¬ nI b.1 < nI h from fun y => z ((nIlt (by omega) (by omega)).mp y))]
      by_cases y : h = b.1
      · rw [if_pos (show nI h = nI b.1 from by rw [y])]
        by_cases x : t.1 < b.2.1
        · rw [if_pos x, if_pos (show bts h t.1 b from Or.inr ⟨y, i_lt.mp x⟩)]
          exact ⟨_, rfl, hnew, rfl, rfl⟩
        · rw [if_neg x, if_neg (show ¬ bts h t.1 b from fun q => by have := i_le.mp (Int32.not_lt.mp x); unfold bts at q; omega)]
          exact ⟨_, rfl, hR, rfl, rfl⟩
      · rw [if_neg (show ¬ nI h = nI b.1 from fun q => y ((nIeq (by omega) (by omega)).mp q)), if_pos (show bts h t.1 b from Or.inl (by omega))]
        exact ⟨_, rfl, hnew, rfl, rfl⟩
theorem ex0_loop (hc : RC te st m) (hr : RNG m) (hc8 : c ≤ 8) (ec : m 32 = nI c) {q : Nat} (eD : D = 0 + (q + 1)) (hD : D ≤ 4) {t : T5} {h : Nat} (hh : h ≤ 0) (b : BB) (hb : b.1 ≤ 5) (o : Nat → Int32) {b' : Bool} {f' : Int32} : ∀ (r f i : Nat) (s : TSe), i + r = c + 2 → r < f → s.2.2.2.2.2 0 = te5 t b' f' → (∀ p, p < 0 → s.2.2.2.1 p = o p) → RB D s (bfl (fun i b => bst m c D q (sHr m (ordAt c i) t) (h + hN (sHm m (ordAt c i) t)) (upd o 0 (ordAt c i)) b) i b) → (0 < i → good m c q (sHr m (-1) t) (h + hN (sHm m (-1) t)) (bfl (fun i b => bst m c D q (sHr m (ordAt c i) t) (h + hN (sHm m (ordAt c i) t)) (upd o 0 (ordAt c i)) b) i b)) → ∃ s', zf_X0_explore_l0_32 st f (nI D) (nI h) (nI i) s = some s' ∧ RB D s' (bfl (fun i b => bst m c D q (sHr m (ordAt c i) t) (h + hN (sHm m (ordAt c i) t)) (upd o 0 (ordAt c i)) b) (c + 2) b) ∧ (∀ j, j ≤ 0 → s'.2.2.2.2.2 j = s.2.2.2.2.2 j) ∧ (∀ p, p < 0 → s'.2.2.2.1 p = s.2.2.2.1 p)
  | _, 0, _, _, _, h, _, _, _, _ => absurd h (Nat.not_lt_zero _)
  | 0, f + 1, i, s, h0, _, hT, ho, hR, hg => by
    have e : i = c + 2 := by omega
    subst e
    unfold zf_X0_explore_l0_32
    rw [(RC_SM hc).1, ec, show nI c + 2 = nI (c + 2) from nI_add c 2, if_pos (i_le.mpr (Int.le_refl _))]
    exact ⟨s, rfl, hR, fun _ _ => rfl, fun _ _ => rfl⟩
  | r + 1, f + 1, i, s, h0, hf, hT, ho, hR, hg => by
    have hO := ordAt_ORD (m := m) hc8 ec (i := i) (by omega)
    obtain ⟨f2, p1, p2, -⟩ := pass7 (RC_SM hc) (RNG_KR hr) hO t (s.2.2.2.2.2 1).2.2.2.2.2.1 (s.2.2.2.2.2 1).2.2.2.2.2.2
    have hl := ble_1 (bfl_le (f := (fun i b => bst m c D q (sHr m (ordAt c i) t) (h + hN (sHm m (ordAt c i) t)) (upd o 0 (ordAt c i)) b)) (fun i b => bst_le q _ _ _ b) i b)
    have hq := hN_le (sHm m (ordAt c i) t)
    obtain ⟨s1, es1⟩ : ∃ s1 : TSe, s1 = (s.1, s.2.1, s.2.2.1, upd s.2.2.2.1 0 (ordAt c i), s.2.2.2.2.1, va_up s.2.2.2.2.2 1 (te5 (sHr m (ordAt c i) t) (sHm m (ordAt c i) t) f2)) := ⟨_, rfl⟩
    have t1 : s1.2.2.2.2.2 1 = te5 (sHr m (ordAt c i) t) (sHm m (ordAt c i) t) f2 := by
      rw [es1]
      show va_up s.2.2.2.2.2 1 _ 1 = _
      exact va_s _ _ _
    have t2 : ∀ j, j ≤ 0 → s1.2.2.2.2.2 j = s.2.2.2.2.2 j := fun j hj => by rw [es1]; exact va_n _ _ (by omega)
    have t3 : ∀ p, p < 1 → s1.2.2.2.1 p = upd o 0 (ordAt c i) p := fun p hp => by
      rw [es1]
      show upd s.2.2.2.1 0 (ordAt c i) p = _
      by_cases e : p = 0
      · subst e; rw [upd_s, upd_s]
      · rw [upd_n e, upd_n e]; exact ho p (by omega)
    have t4 : ∀ p, p < 0 → s1.2.2.2.1 p = s.2.2.2.1 p := fun p hp => by rw [es1]; exact upd_n (by omega)
    have t5' : RB D s1 (bfl (fun i b => bst m c D q (sHr m (ordAt c i) t) (h + hN (sHm m (ordAt c i) t)) (upd o 0 (ordAt c i)) b) i b) := by rw [es1]; exact hR
    have eb : zf_X0_exploreBy_l0 (ordAt c i) (nI D) (nI h) s st = (if f2 = -1 then (if sHm m (ordAt c i) t = true then zf_X0_exploreBy_l0_77 st (nI h + 1) (nI D) s1 else zf_X0_exploreBy_l0_77 st (nI h) (nI D) s1) else some s1) := by
      unfold zf_X0_exploreBy_l0
      rw [if_neg (show ¬ (0 : Int32) < 0 by decide), if_pos (show (0 : Int32) < 4 by decide), hT, becomeT5 t b' f' (s.2.2.2.2.2 1), Option.bind_some, p1, Option.bind_some, es1]
      try rfl
    have st1 : zf_X0_explore_l0_32 st (f + 1) (nI D) (nI h) (nI i) s = Option.bind (zf_X0_exploreBy_l0 (ordAt c i) (nI D) (nI h) s st) (fun u => zf_X0_explore_l0_32 st f (nI D) (nI h) (nI i + 1) u) := by
      conv => lhs; unfold zf_X0_explore_l0_32
      rw [(RC_SM hc).1, ec, show nI c + 2 = nI (c + 2) from nI_add c 2, if_neg (show ¬ nI (c + 2) ≤ nI i from nle (by omega) (by omega)), ordAt7 (RC_SM hc).1 hc8 ec (by omega), Option.bind_some]
    have es : bfl (fun i b => bst m c D q (sHr m (ordAt c i) t) (h + hN (sHm m (ordAt c i) t)) (upd o 0 (ordAt c i)) b) (i + 1) b = bst m c D q (sHr m (ordAt c i) t) (h + hN (sHm m (ordAt c i) t)) (upd o 0 (ordAt c i)) (bfl (fun i b => bst m c D q (sHr m (ordAt c i) t) (h + hN (sHm m (ordAt c i) t)) (upd o 0 (ordAt c i)) b) i b) := rfl
    rw [st1, eb]
    cases hF : sFl m (ordAt c i) t
    · have st2 : (if sHm m (ordAt c i) t = true then zf_X0_exploreBy_l0_77 st (nI h + 1) (nI D) s1 else zf_X0_exploreBy_l0_77 st (nI h) (nI D) s1) = zf_X0_exploreBy_l0_77 st (nI (h + hN (sHm m (ordAt c i) t))) (nI D) s1 := by
        cases sHm m (ordAt c i) t
        · rw [if_neg Bool.false_ne_true]; rfl
        · rw [if_pos rfl, nI_1]; rfl
      obtain ⟨s2, x1, x2, x3, x4⟩ := ex1 (D := D) hc hr hc8 ec (by omega) hD (t := sHr m (ordAt c i) t) (h := h + hN (sHm m (ordAt c i) t)) (by omega) (s := s1) (b := bfl (fun i b => bst m c D q (sHr m (ordAt c i) t) (h + hN (sHm m (ordAt c i) t)) (upd o 0 (ordAt c i)) b) i b) (by omega) (o := upd o 0 (ordAt c i)) t1 t3 t5'
      rw [show D - 1 = q by omega, ← es] at x2
      rw [if_pos (p2.mpr hF), st2]
      unfold zf_X0_exploreBy_l0_77
      rw [x1, Option.bind_some, Option.bind_some, nI_1]
      obtain ⟨s3, k1, k2, k3, k4⟩ := ex0_loop hc hr hc8 ec eD hD hh b hb o r f (i + 1) s2 (by omega) (by omega) ((x3 0 (by omega)).trans ((t2 0 (by omega)).trans hT)) (fun p hp => (x4 p (by omega)).trans ((t4 p hp).trans (ho p hp))) x2 (fun _ => by
        by_cases z : i = 0
        · subst z
          rw [es]
          have := good_bst (m := m) (c := c) (D := D) q (sHr m (ordAt c 0) t) (h + hN (sHm m (ordAt c 0) t)) (upd o 0 (ordAt c 0)) (bfl (fun i b => bst m c D q (sHr m (ordAt c i) t) (h + hN (sHm m (ordAt c i) t)) (upd o 0 (ordAt c i)) b) 0 b)
          rw [ordAt_0] at *
          exact this
        · exact good_le (bst_le q _ _ _ _) q _ _ (hg (by omega)))
      exact ⟨s3, k1, k2, fun j hj => (k3 j hj).trans ((x3 j (by omega)).trans (t2 j hj)), fun p hp => (k4 p hp).trans ((x4 p (by omega)).trans (t4 p hp))⟩
    · have hi0 : 0 < i := by
        rcases Nat.eq_zero_or_pos i with z | z
        · subst z
          rw [ordAt_0] at hF
          have hF' : sFl m (-1) t = false := rfl
          rw [hF'] at hF
          cases hF
        · exact z
      have em : sMid m (ordAt c i) t = sMid m (-1) t := fl_same hF
      have e1 : sHr m (ordAt c i) t = sHr m (-1) t := by unfold sHr; rw [em]
      have e2 : sHm m (ordAt c i) t = sHm m (-1) t := by unfold sHm; rw [em]
      have es2 : bfl (fun i b => bst m c D q (sHr m (ordAt c i) t) (h + hN (sHm m (ordAt c i) t)) (upd o 0 (ordAt c i)) b) (i + 1) b = bfl (fun i b => bst m c D q (sHr m (ordAt c i) t) (h + hN (sHm m (ordAt c i) t)) (upd o 0 (ordAt c i)) b) i b := by
        rw [es, e1, e2]
        exact good_id q _ _ _ (hg hi0)
      rw [if_neg (fun y => by have := p2.mp y; rw [hF] at this; cases this)]
      rw [Option.bind_some, nI_1]
      obtain ⟨s3, k1, k2, k3, k4⟩ := ex0_loop hc hr hc8 ec eD hD hh b hb o r f (i + 1) s1 (by omega) (by omega) ((t2 0 (by omega)).trans hT) (fun p hp => (t4 p hp).trans (ho p hp)) (by rw [es2]; exact t5') (fun _ => by rw [es2]; exact hg hi0)
      exact ⟨s3, k1, k2, fun j hj => (k3 j hj).trans (t2 j hj), fun p hp => (k4 p hp).trans (t4 p hp)⟩
theorem ex0 (hc : RC te st m) (hr : RNG m) (hc8 : c ≤ 8) (ec : m 32 = nI c) (hd : 0 ≤ D) (hD : D ≤ 4) {t : T5} {h : Nat} (hh : h ≤ 0) {s : TSe} {b : BB} (hb : b.1 ≤ 5) {o : Nat → Int32} {b' : Bool} {f' : Int32} (hT : s.2.2.2.2.2 0 = te5 t b' f') (ho : ∀ p, p < 0 → s.2.2.2.1 p = o p) (hR : RB D s b) : ∃ s', zf_X0_explore_l0 (nI D) (nI h) s st = some s' ∧ RB D s' (bst m c D (D - 0) t h o b) ∧ (∀ j, j ≤ 0 → s'.2.2.2.2.2 j = s.2.2.2.2.2 j) ∧ (∀ p, p < 0 → s'.2.2.2.1 p = s.2.2.2.1 p) := by
  have h16 : ∃ s', zf_X0_explore_l0_16 st (nI D) (nI h) s = some s' ∧ RB D s' (bst m c D (D - 0) t h o b) ∧ (∀ j, j ≤ 0 → s'.2.2.2.2.2 j = s.2.2.2.2.2 j) ∧ (∀ p, p < 0 → s'.2.2.2.1 p = s.2.2.2.1 p) := by
    unfold zf_X0_explore_l0_16
    by_cases e : D = 0
    · subst e
      obtain ⟨s', k1, k2, k3, k4⟩ := cm0 (D := 0) (by decide) (show h ≤ 4 by omega) hb (t := t) (by rw [hT]) ho hR
      rw [if_neg (show ¬ (0 : Int32) < nI 0 by decide), k1]
      exact ⟨s', rfl, by rw [Nat.sub_self]; exact k2, fun j _ => by rw [k4], fun p _ => by rw [k3]⟩
    · obtain ⟨q, eD⟩ : ∃ q, D = 0 + (q + 1) := ⟨D - 1, by omega⟩
      have eq0 : D - 0 = q + 1 := by omega
      have eq2 : D - (q + 1) = 0 := by omega
      obtain ⟨s', k1, k2, k3⟩ := ex0_loop hc hr hc8 ec eD hD hh b hb o (c + 2) FU 0 s (by omega) (by show c + 2 < 2000; omega) hT ho hR (fun y => absurd y (Nat.lt_irrefl _))
      have eb : bst m c D (q + 1) t h o b = bfl (fun i b => bst m c D q (sHr m (ordAt c i) t) (h + hN (sHm m (ordAt c i) t)) (upd o 0 (ordAt c i)) b) (c + 2) b := by
        conv => lhs; unfold bst
        rw [eq2]
      have k1' : zf_X0_explore_l0_32 st FU (nI D) (nI h) 0 s = some s' := k1
      rw [if_pos (Int32.not_le.mp (show ¬ nI D ≤ (0 : Int32) from nle (i := 0) (by omega) (by omega))), k1', eq0, eb]
      exact ⟨s', rfl, k2, k3⟩
  unfold zf_X0_explore_l0
  cases x : s.2.2.1
  · rw [if_neg Bool.false_ne_true]
    exact h16
  · rw [if_pos rfl]
    by_cases z : nI h ≤ s.1
    · rw [if_pos z]
      exact h16
    · rw [if_neg z]
      refine ⟨s, rfl, ?_, fun _ _ => rfl, fun _ _ => rfl⟩
      have hbh : b.1 < h := by
        have g := (hR.1 x).1
        rw [g] at z
        exact Nat.lt_of_not_le (fun y => z ((nIle (a := h) (b := b.1) (by omega) (by omega)).mpr y))
      rw [good_id _ _ _ _ (good_cut _ _ _ hbh)]
      exact hR
theorem q_best {se : TSe} {fl : Bool} {ro row : Nat → Int32} {bH bR : Int32} (hc : RC te st m) (hr : RNG m) (hf : RF rf rfd) (x1 x2 : Int32) : ∃ r1 r2, zf_X7_best x1 x2 te st se rf = some r1 ∧ zf_X8_best x1 x2 rfd m mi fl ro row bH bR = some r2 ∧ r1.1 = r2.1 ∧ r2.2.2.1 = m ∧ RF r1.2.2 r2.2.1 := by
  have hno : ∃ r1 r2, zf_X7_best_21 te st se rf = some r1 ∧ zf_X8_best_27 rfd m mi fl ro row bH bR = some r2 ∧ r1.1 = r2.1 ∧ r2.2.2.1 = m ∧ RF r1.2.2 r2.2.1 := by
    unfold zf_X7_best_21 zf_X8_best_27
    rw [r7_2, r8_2]
    exact ⟨_, _, rfl, rfl, rfl, rfl, rf_2 hf⟩
  unfold zf_X7_best zf_X8_best
  rw [win7, win7, win8 (a := 1) (b := 4) (by decide) (by decide), win8 (a := -2) (b := x1 - 1) (by decide) rfl, Option.bind_some, Option.bind_some, Option.bind_some, Option.bind_some]
  cases h1 : win x1 1 4
  · exact hno
  cases h2 : win x2 (-2) (x1 - 1)
  · exact hno
  rw [if_pos rfl, if_pos rfl, if_pos rfl, if_pos rfl]
  obtain ⟨c, -, hc8, ec⟩ := hr.1
  obtain ⟨D, hD1, hD4, rfl⟩ : ∃ D : Nat, 1 ≤ D ∧ D ≤ 4 ∧ x1 = nI D := by
    have h := win_iff.mp h1
    have h' : (1 : Int) ≤ x1.toInt ∧ x1.toInt ≤ 4 := h
    refine ⟨x1.toInt.toNat, by omega, by omega, i_eq.mpr ?_⟩
    rw [nI_t (by omega)]
    omega
  obtain ⟨mi', fl', ro', e2, -, -⟩ := tl0 (D := D) hc8 ec (by omega) hD4 (MSt_self m) (RNG_TR hr) (h := 0) (by omega) mi fl ro (5, 100, row) (Nat.le_refl 5)
  obtain ⟨s', e1, hR, -, -⟩ := ex0 (D := D) hc hr hc8 ec (by omega) hD4 (t := t5 m) (h := 0) (by omega) (s := (se.1, se.2.1, false, se.2.2.2.1, se.2.2.2.2.1, va_up se.2.2.2.2.2 0 (bk (se.2.2.2.2.2 0) te))) (b := (5, 100, row)) (Nat.le_refl 5) (o := ro) (b' := (se.2.2.2.2.2 0).2.2.2.2.2.1) (f' := (se.2.2.2.2.2 0).2.2.2.2.2.2) (by
    show va_up se.2.2.2.2.2 0 (bk (se.2.2.2.2.2 0) te) 0 = _
    rw [va_s]
    exact bk_te hc _) (fun p hp => absurd hp (Nat.not_lt_zero _)) ⟨(fun y => by cases y), fun _ => rfl⟩
  have e1' : zf_X0_run (nI D) se te st = some s' := by
    unfold zf_X0_run
    rw [becomeT, Option.bind_some, show zf_X0_explore_l0 (nI D) 0 (se.1, se.2.1, false, se.2.2.2.1, se.2.2.2.2.1, va_up se.2.2.2.2.2 0 (bk (se.2.2.2.2.2 0) te)) st = some s' from e1]
    rfl
  have e2' : zf_X8_tryAll_l0 (nI D) 0 m mi fl ro row 5 100 = _ := e2
  have g1 := good_n _ _ _ (good_bst (m := m) (c := c) (D := D) (D - 0) (t5 m) 0 ro (5, 100, row))
  obtain ⟨bf, ebf⟩ : ∃ bf : BB, bf = bst m c D (D - 0) (t5 m) 0 ro (5, 100, row) := ⟨_, rfl⟩
  rw [← ebf] at e2' hR g1
  have hx : s'.2.2.1 = true := by
    cases x : s'.2.2.1
    · have := hR.2 x
      omega
    · rfl
  obtain ⟨g2, g3, g4⟩ := hR.1 hx
  rw [e1', e2', Option.bind_some, Option.bind_some]
  dsimp only
  by_cases z : x2 = -2
  · rw [if_pos z, if_pos z]
    exact ⟨_, _, rfl, rfl, g2, rfl, hf⟩
  · rw [if_neg z, if_neg z]
    by_cases y : x2 = -1
    · rw [if_pos y, if_pos y]
      exact ⟨_, _, rfl, rfl, g3, rfl, hf⟩
    · rw [if_neg y, if_neg y]
      have h := win_iff.mp h2
      have eD : (nI D - 1).toInt = (D : Int) - 1 := by
        rw [i_sub (by rw [nI_t (by omega)]; show _ ≤ _ - (1 : Int); omega) (by rw [nI_t (by omega)]; show _ - (1 : Int) < _; omega), nI_t (by omega)]
        rfl
      rw [eD] at h
      have h' : (-2 : Int) ≤ x2.toInt ∧ x2.toInt ≤ (D : Int) - 1 := h
      have z' : ¬ x2.toInt = -2 := fun q => z (i_eq.mpr q)
      have y' : ¬ x2.toInt = -1 := fun q => y (i_eq.mpr q)
      obtain ⟨j, hj, rfl⟩ : ∃ j : Nat, j < D ∧ x2 = nI j := ⟨x2.toInt.toNat, by omega, i_eq.mpr (by rw [nI_t (by omega)]; omega)⟩
      unfold zf_X0_orderOf
      rw [if_neg (show ¬ nI j < 0 from fun q => by have := (nIlt (b := 0) (by omega) (by decide)).mp q; omega), if_neg (show ¬ (4 : Int32) ≤ nI j from nle (a := 4) (by omega) (by decide)), if_pos (ix_nI (by omega) (by decide)), if_pos (ix_nI (by omega) (by decide)), Option.bind_some, cl_nI (by omega)]
      exact ⟨_, _, rfl, rfl, g4 j hj, rfl, hf⟩
theorem pl_best : PL_best := by
  intro σ μ x1 x2 N hN hrel
  obtain ⟨hc, hk, hf, hs, ht, ha, hwd⟩ := hrel
  obtain ⟨r1, r2, h1, h2, h3, h4, h5⟩ := q_best (se := σ.2.2.2.2.2.2.2.2.2.2.1) (mi := μ.2.2.2.1) (fl := μ.2.2.2.2.2.2.2.2.2.2.2.1) (ro := μ.2.2.2.2.2.2.2.2.2.2.2.2.2.2.2.2.2.1) (row := μ.2.2.2.2.2.2.2.2.2.2.2.2.2.2.2.2.2.2.2.2.1) (bH := μ.2.2.2.2.2.2.2.2.2.2.2.2.2.2.2.2.2.2.2.2.2.1) (bR := μ.2.2.2.2.2.2.2.2.2.2.2.2.2.2.2.2.2.2.2.2.2.2.1) hc.1 hc.2.1 hf x1 x2
  exact ⟨r1, r2, h1, h2, h3, eqc h4 hc, hk, h5, eqs h4 hs, ht, ha, upE h4 hwd⟩
