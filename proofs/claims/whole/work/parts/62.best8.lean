/-! pure rows: best, the model's side -/
variable {te : TTe} {st : TSt} {m : Nat → Int32} {rf rfd mi : Nat → Int32} {c D : Nat}
theorem tc4 (hD : D ≤ 4) (μ mi : Nat → Int32) (fl : Bool) (ro row0 : Nat → Int32) (H R : Int32) : ∀ (r f i : Nat) (row : Nat → Int32), i + r = D → r < f → row = cpo i ro row0 → zf_X8_tryAll_l4_54 f (nI D) (nI i) μ mi fl ro row H R = some (μ, mi, fl, ro, cpo D ro row0, H, R)
  | _, 0, _, _, _, h, _ => absurd h (Nat.not_lt_zero _)
  | 0, f + 1, i, row, hi, _, e => by
    have e' : i = D := by omega
    subst e'
    unfold zf_X8_tryAll_l4_54
    rw [if_pos (i_le.mpr (Int.le_refl _)), e]
  | r + 1, f + 1, i, row, hi, hf, e => by
    unfold zf_X8_tryAll_l4_54
    rw [if_neg (show ¬ nI D ≤ nI i from nle (by omega) (by omega)), if_pos (ix_nI (by omega) (by decide)), if_pos (ix_nI (by omega) (by decide)), cl_nI (by omega), nI_1]
    exact tc4 hD μ mi fl ro row0 H R r f (i + 1) _ (by omega) (by omega) (by rw [e, cpo_s])
theorem tl4_leaf {t : T5} {μ : Nat → Int32} (hM : MSt m t μ) {h : Nat} (hh : h ≤ 4) (mi : Nat → Int32) (fl : Bool) (ro : Nat → Int32) (b : BB) (hb : b.1 ≤ 5) : zf_X8_tryAll_l4 (nI 4) (nI h) μ mi fl ro b.2.2 (nI b.1) b.2.1 = some (μ, mi, fl, ro, (bLeaf 4 h t ro b).2.2, nI (bLeaf 4 h t ro b).1, (bLeaf 4 h t ro b).2.1) := by
  have e1 := tc4 (D := 4) (by decide) μ mi fl ro b.2.2 (nI h) (μ 33) 4 FU 0 b.2.2 (by decide) (by show 4 < 2000; omega) (cpo_0 _ _).symm
  have e2 : zf_X8_tryAll_l4_35 (nI 4) (nI h) μ mi fl ro b.2.2 (nI b.1) b.2.1 = _ := e1
  unfold zf_X8_tryAll_l4 bLeaf
  rw [if_pos (by decide), e2, hM.2.2.1]
  by_cases z : h < b.1
  · rw [if_pos (show nI h < nI b.1 from (nIlt (by omega) (by omega)).mpr z), if_pos (show bts h t.1 b from Or.inl z)]
  · rw [if_neg (show ¬ nI h < nI b.1 from fun y => z ((nIlt (by omega) (by omega)).mp y))]
    by_cases y : h = b.1
    · rw [if_pos (show nI h = nI b.1 from by rw [y])]
      by_cases x : b.2.1 ≤ t.1
      · rw [if_pos x, if_neg (show ¬ bts h t.1 b from fun q => by have := i_le.mp x; unfold bts at q; omega)]
      · rw [if_neg x, if_pos (show bts h t.1 b from Or.inr ⟨y, by have := i_lt.mp (Int32.not_le.mp x); omega⟩)]
    · rw [if_neg (show ¬ nI h = nI b.1 from fun q => y ((nIeq (by omega) (by omega)).mp q)), if_neg (show ¬ bts h t.1 b from fun q => by unfold bts at q; omega)]
theorem tl4 (hc8 : c ≤ 8) (ec : m 32 = nI c) (hd : 4 ≤ D) (hD : D ≤ 4) {t : T5} {μ : Nat → Int32} (hM : MSt m t μ) (ht : TR t) {h : Nat} (hh : h ≤ 4) (mi : Nat → Int32) (fl : Bool) (ro : Nat → Int32) (b : BB) (hb : b.1 ≤ 5) : ∃ mi' fl' ro', zf_X8_tryAll_l4 (nI D) (nI h) μ mi fl ro b.2.2 (nI b.1) b.2.1 = some (μ, mi', fl', ro', (bst m c D (D - 4) t h ro b).2.2, nI (bst m c D (D - 4) t h ro b).1, (bst m c D (D - 4) t h ro b).2.1) ∧ (∀ p, p < 39 * 4 → mi' p = mi p) ∧ (∀ p, p < 4 → ro' p = ro p) := by
    have e : D = 4 := by omega
    subst e
    rw [Nat.sub_self]
    exact ⟨mi, fl, ro, tl4_leaf hM (by omega) mi fl ro b hb, fun _ _ => rfl, fun _ _ => rfl⟩
theorem tc3 (hD : D ≤ 4) (μ mi : Nat → Int32) (fl : Bool) (ro row0 : Nat → Int32) (H R : Int32) : ∀ (r f i : Nat) (row : Nat → Int32), i + r = D → r < f → row = cpo i ro row0 → zf_X8_tryAll_l3_54 f (nI D) (nI i) μ mi fl ro row H R = some (μ, mi, fl, ro, cpo D ro row0, H, R)
  | _, 0, _, _, _, h, _ => absurd h (Nat.not_lt_zero _)
  | 0, f + 1, i, row, hi, _, e => by
    have e' : i = D := by omega
    subst e'
    unfold zf_X8_tryAll_l3_54
    rw [if_pos (i_le.mpr (Int.le_refl _)), e]
  | r + 1, f + 1, i, row, hi, hf, e => by
    unfold zf_X8_tryAll_l3_54
    rw [if_neg (show ¬ nI D ≤ nI i from nle (by omega) (by omega)), if_pos (ix_nI (by omega) (by decide)), if_pos (ix_nI (by omega) (by decide)), cl_nI (by omega), nI_1]
    exact tc3 hD μ mi fl ro row0 H R r f (i + 1) _ (by omega) (by omega) (by rw [e, cpo_s])
theorem tl3_leaf {t : T5} {μ : Nat → Int32} (hM : MSt m t μ) {h : Nat} (hh : h ≤ 4) (mi : Nat → Int32) (fl : Bool) (ro : Nat → Int32) (b : BB) (hb : b.1 ≤ 5) : zf_X8_tryAll_l3 (nI 3) (nI h) μ mi fl ro b.2.2 (nI b.1) b.2.1 = some (μ, mi, fl, ro, (bLeaf 3 h t ro b).2.2, nI (bLeaf 3 h t ro b).1, (bLeaf 3 h t ro b).2.1) := by
  have e1 := tc3 (D := 3) (by decide) μ mi fl ro b.2.2 (nI h) (μ 33) 3 FU 0 b.2.2 (by decide) (by show 3 < 2000; omega) (cpo_0 _ _).symm
  have e2 : zf_X8_tryAll_l3_35 (nI 3) (nI h) μ mi fl ro b.2.2 (nI b.1) b.2.1 = _ := e1
  unfold zf_X8_tryAll_l3 bLeaf
  rw [if_pos (by decide), e2, hM.2.2.1]
  by_cases z : h < b.1
  · rw [if_pos (show nI h < nI b.1 from (nIlt (by omega) (by omega)).mpr z), if_pos (show bts h t.1 b from Or.inl z)]
  · rw [if_neg (show ¬ nI h < nI b.1 from fun y => z ((nIlt (by omega) (by omega)).mp y))]
    by_cases y : h = b.1
    · rw [if_pos (show nI h = nI b.1 from by rw [y])]
      by_cases x : b.2.1 ≤ t.1
      · rw [if_pos x, if_neg (show ¬ bts h t.1 b from fun q => by have := i_le.mp x; unfold bts at q; omega)]
      · rw [if_neg x, if_pos (show bts h t.1 b from Or.inr ⟨y, by have := i_lt.mp (Int32.not_le.mp x); omega⟩)]
    · rw [if_neg (show ¬ nI h = nI b.1 from fun q => y ((nIeq (by omega) (by omega)).mp q)), if_neg (show ¬ bts h t.1 b from fun q => by unfold bts at q; omega)]
theorem tl3_loop (hc8 : c ≤ 8) (ec : m 32 = nI c) {q : Nat} (eD : D = 3 + (q + 1)) (hD : D ≤ 4) {t : T5} {μ : Nat → Int32} (hM : MSt m t μ) (ht : TR t) {h : Nat} (hh : h ≤ 3) (ro : Nat → Int32) (b : BB) (hb : b.1 ≤ 5) : ∀ (r f i : Nat) (mi : Nat → Int32) (fl : Bool) (rx : Nat → Int32), i + r = c + 2 → r < f → (∀ p, p < 39 → mi (39 * 3 + p) = μ p) → (∀ p, p < 3 → rx p = ro p) → ∃ mi' fl' ro', zf_X8_tryAll_l3_89 f (nI D) (nI h) (nI i) μ mi fl rx (bfl (fun i b => bst m c D q (sHr m (ordAt c i) t) (h + hN (sHm m (ordAt c i) t)) (upd ro 3 (ordAt c i)) b) i b).2.2 (nI (bfl (fun i b => bst m c D q (sHr m (ordAt c i) t) (h + hN (sHm m (ordAt c i) t)) (upd ro 3 (ordAt c i)) b) i b).1) (bfl (fun i b => bst m c D q (sHr m (ordAt c i) t) (h + hN (sHm m (ordAt c i) t)) (upd ro 3 (ordAt c i)) b) i b).2.1 = some (μ, mi', fl', ro', (bfl (fun i b => bst m c D q (sHr m (ordAt c i) t) (h + hN (sHm m (ordAt c i) t)) (upd ro 3 (ordAt c i)) b) (c + 2) b).2.2, nI (bfl (fun i b => bst m c D q (sHr m (ordAt c i) t) (h + hN (sHm m (ordAt c i) t)) (upd ro 3 (ordAt c i)) b) (c + 2) b).1, (bfl (fun i b => bst m c D q (sHr m (ordAt c i) t) (h + hN (sHm m (ordAt c i) t)) (upd ro 3 (ordAt c i)) b) (c + 2) b).2.1) ∧ (∀ p, p < 39 * 3 → mi' p = mi p) ∧ (∀ p, p < 3 → ro' p = ro p)
  | _, 0, _, _, _, _, _, h, _, _ => absurd h (Nat.not_lt_zero _)
  | 0, f + 1, i, mi, fl, rx, h0, _, hm, hx => by
    have e : i = c + 2 := by omega
    subst e
    unfold zf_X8_tryAll_l3_89 zf_X8_many
    rw [hM.2.1, ec, Option.bind_some, show nI c + 2 = nI (c + 2) from nI_add c 2, if_pos (i_le.mpr (Int.le_refl _))]
    exact ⟨_, _, _, rfl, fun _ _ => rfl, hx⟩
  | r + 1, f + 1, i, mi, fl, rx, h0, hf, hm, hx => by
    have hO := ordAt_ORD (m := m) hc8 ec (i := i) (by omega)
    obtain ⟨μ', s1, s2, -⟩ := step8 hM ht hO fl
    have hl := ble_1 (bfl_le (f := (fun i b => bst m c D q (sHr m (ordAt c i) t) (h + hN (sHm m (ordAt c i) t)) (upd ro 3 (ordAt c i)) b)) (fun i b => bst_le q _ _ _ b) i b)
    have hq := hN_le (sHm m (ordAt c i) t)
    obtain ⟨mi2, fl2, ro2, n1, n2, n3⟩ := tl4 (D := D) hc8 ec (by omega) hD s2 (TR_hr ht) (h := h + hN (sHm m (ordAt c i) t)) (by omega) mi (sFl m (ordAt c i) t) (upd rx 3 (ordAt c i)) (bfl (fun i b => bst m c D q (sHr m (ordAt c i) t) (h + hN (sHm m (ordAt c i) t)) (upd ro 3 (ordAt c i)) b) i b) (by omega)
    have eq1 : D - 4 = q := by omega
    have eb : bst m c D (D - 4) (sHr m (ordAt c i) t) (h + hN (sHm m (ordAt c i) t)) (upd rx 3 (ordAt c i)) (bfl (fun i b => bst m c D q (sHr m (ordAt c i) t) (h + hN (sHm m (ordAt c i) t)) (upd ro 3 (ordAt c i)) b) i b) = bfl (fun i b => bst m c D q (sHr m (ordAt c i) t) (h + hN (sHm m (ordAt c i) t)) (upd ro 3 (ordAt c i)) b) (i + 1) b := by
      rw [eq1]
      show _ = bst m c D q (sHr m (ordAt c i) t) (h + hN (sHm m (ordAt c i) t)) (upd ro 3 (ordAt c i)) (bfl (fun i b => bst m c D q (sHr m (ordAt c i) t) (h + hN (sHm m (ordAt c i) t)) (upd ro 3 (ordAt c i)) b) i b)
      refine bst_congr q _ _ _ _ _ (by omega) (fun p hp => ?_)
      by_cases e : p = 3
      · subst e; rw [upd_s, upd_s]
      · rw [upd_n e, upd_n e]; exact hx p (by omega)
    rw [eb] at n1
    have ly : zf_X8_lay 3 μ' mi2 = some μ := lay_keep (f := mi) (d := 3) (by decide) (fun j hj => (s2.2.2.2.2.2.2.2.2 j hj).trans (hM.2.2.2.2.2.2.2.2 j hj).symm) (fun j hj => (n2 _ (by omega)).trans (hm j hj))
    obtain ⟨mi3, fl3, ro3, k1, k2, k3⟩ := tl3_loop hc8 ec eD hD hM ht hh ro b hb r f (i + 1) mi2 fl2 ro2 (by omega) (by omega) (fun p hp => (n2 _ (by omega)).trans (hm p hp)) (fun p hp => (n3 p (by omega)).trans ((upd_n (by omega)).trans (hx p hp)))
    refine ⟨mi3, fl3, ro3, ?_, fun p hp => (k2 p hp).trans (n2 p (by omega)), k3⟩
    rw [← k1]
    conv => lhs; unfold zf_X8_tryAll_l3_89
    unfold zf_X8_many
    rw [hM.2.1, ec, Option.bind_some, show nI c + 2 = nI (c + 2) from nI_add c 2, if_neg (show ¬ nI (c + 2) ≤ nI i from nle (by omega) (by omega)), ordAt8 (m := μ) hc8 (hM.2.1.trans ec) (by omega), Option.bind_some, upd_s, s1, Option.bind_some]
    dsimp only
    rw [hN_I, n1, Option.bind_some]
    dsimp only
    rw [ly, Option.bind_some, nI_1]
theorem tl3 (hc8 : c ≤ 8) (ec : m 32 = nI c) (hd : 3 ≤ D) (hD : D ≤ 4) {t : T5} {μ : Nat → Int32} (hM : MSt m t μ) (ht : TR t) {h : Nat} (hh : h ≤ 3) (mi : Nat → Int32) (fl : Bool) (ro : Nat → Int32) (b : BB) (hb : b.1 ≤ 5) : ∃ mi' fl' ro', zf_X8_tryAll_l3 (nI D) (nI h) μ mi fl ro b.2.2 (nI b.1) b.2.1 = some (μ, mi', fl', ro', (bst m c D (D - 3) t h ro b).2.2, nI (bst m c D (D - 3) t h ro b).1, (bst m c D (D - 3) t h ro b).2.1) ∧ (∀ p, p < 39 * 3 → mi' p = mi p) ∧ (∀ p, p < 3 → ro' p = ro p) := by
  by_cases e : D = 3
  ·
    subst e
    rw [Nat.sub_self]
    exact ⟨mi, fl, ro, tl3_leaf hM (by omega) mi fl ro b hb, fun _ _ => rfl, fun _ _ => rfl⟩
  · obtain ⟨q, eD⟩ : ∃ q, D = 3 + (q + 1) := ⟨D - 4, by omega⟩
    have eq0 : D - 3 = q + 1 := by omega
    have eq2 : D - (q + 1) = 3 := by omega
    obtain ⟨mi', fl', ro', k1, k2, k3⟩ := tl3_loop hc8 ec eD hD hM ht hh ro b hb (c + 2) FU 0 (kp 3 μ mi) fl ro (by omega) (by show c + 2 < 2000; omega) (fun p hp => kp_at 3 μ mi p hp) (fun _ _ => rfl)
    refine ⟨mi', fl', ro', ?_, fun p hp => (k2 p hp).trans (by unfold kp; rw [if_neg (by omega)]), k3⟩
    have eb : bst m c D (q + 1) t h ro b = bfl (fun i b => bst m c D q (sHr m (ordAt c i) t) (h + hN (sHm m (ordAt c i) t)) (upd ro 3 (ordAt c i)) b) (c + 2) b := by
      conv => lhs; unfold bst
      rw [eq2]
    rw [eq0, eb, ← k1]
    unfold zf_X8_tryAll_l3
    have hk : zf_X8_keep 3 μ mi = some (kp 3 μ mi) := keepk μ mi (d := 3) (by decide)
    rw [if_neg (show ¬ (3 : Int32) = nI D from fun y => e ((nIeq (a := 3) (by decide) (by omega)).mp y).symm), hk, Option.bind_some]
    rfl
theorem tc2 (hD : D ≤ 4) (μ mi : Nat → Int32) (fl : Bool) (ro row0 : Nat → Int32) (H R : Int32) : ∀ (r f i : Nat) (row : Nat → Int32), i + r = D → r < f → row = cpo i ro row0 → zf_X8_tryAll_l2_54 f (nI D) (nI i) μ mi fl ro row H R = some (μ, mi, fl, ro, cpo D ro row0, H, R)
  | _, 0, _, _, _, h, _ => absurd h (Nat.not_lt_zero _)
  | 0, f + 1, i, row, hi, _, e => by
    have e' : i = D := by omega
    subst e'
    unfold zf_X8_tryAll_l2_54
    rw [if_pos (i_le.mpr (Int.le_refl _)), e]
  | r + 1, f + 1, i, row, hi, hf, e => by
    unfold zf_X8_tryAll_l2_54
    rw [if_neg (show ¬ nI D ≤ nI i from nle (by omega) (by omega)), if_pos (ix_nI (by omega) (by decide)), if_pos (ix_nI (by omega) (by decide)), cl_nI (by omega), nI_1]
    exact tc2 hD μ mi fl ro row0 H R r f (i + 1) _ (by omega) (by omega) (by rw [e, cpo_s])
theorem tl2_leaf {t : T5} {μ : Nat → Int32} (hM : MSt m t μ) {h : Nat} (hh : h ≤ 4) (mi : Nat → Int32) (fl : Bool) (ro : Nat → Int32) (b : BB) (hb : b.1 ≤ 5) : zf_X8_tryAll_l2 (nI 2) (nI h) μ mi fl ro b.2.2 (nI b.1) b.2.1 = some (μ, mi, fl, ro, (bLeaf 2 h t ro b).2.2, nI (bLeaf 2 h t ro b).1, (bLeaf 2 h t ro b).2.1) := by
  have e1 := tc2 (D := 2) (by decide) μ mi fl ro b.2.2 (nI h) (μ 33) 2 FU 0 b.2.2 (by decide) (by show 2 < 2000; omega) (cpo_0 _ _).symm
  have e2 : zf_X8_tryAll_l2_35 (nI 2) (nI h) μ mi fl ro b.2.2 (nI b.1) b.2.1 = _ := e1
  unfold zf_X8_tryAll_l2 bLeaf
  rw [if_pos (by decide), e2, hM.2.2.1]
  by_cases z : h < b.1
  · rw [if_pos (show nI h < nI b.1 from (nIlt (by omega) (by omega)).mpr z), if_pos (show bts h t.1 b from Or.inl z)]
  · rw [if_neg (show ¬ nI h < nI b.1 from fun y => z ((nIlt (by omega) (by omega)).mp y))]
    by_cases y : h = b.1
    · rw [if_pos (show nI h = nI b.1 from by rw [y])]
      by_cases x : b.2.1 ≤ t.1
      · rw [if_pos x, if_neg (show ¬ bts h t.1 b from fun q => by have := i_le.mp x; unfold bts at q; omega)]
      · rw [if_neg x, if_pos (show bts h t.1 b from Or.inr ⟨y, by have := i_lt.mp (Int32.not_le.mp x); omega⟩)]
    · rw [if_neg (show ¬ nI h = nI b.1 from fun q => y ((nIeq (by omega) (by omega)).mp q)), if_neg (show ¬ bts h t.1 b from fun q => by unfold bts at q; omega)]
theorem tl2_loop (hc8 : c ≤ 8) (ec : m 32 = nI c) {q : Nat} (eD : D = 2 + (q + 1)) (hD : D ≤ 4) {t : T5} {μ : Nat → Int32} (hM : MSt m t μ) (ht : TR t) {h : Nat} (hh : h ≤ 2) (ro : Nat → Int32) (b : BB) (hb : b.1 ≤ 5) : ∀ (r f i : Nat) (mi : Nat → Int32) (fl : Bool) (rx : Nat → Int32), i + r = c + 2 → r < f → (∀ p, p < 39 → mi (39 * 2 + p) = μ p) → (∀ p, p < 2 → rx p = ro p) → ∃ mi' fl' ro', zf_X8_tryAll_l2_89 f (nI D) (nI h) (nI i) μ mi fl rx (bfl (fun i b => bst m c D q (sHr m (ordAt c i) t) (h + hN (sHm m (ordAt c i) t)) (upd ro 2 (ordAt c i)) b) i b).2.2 (nI (bfl (fun i b => bst m c D q (sHr m (ordAt c i) t) (h + hN (sHm m (ordAt c i) t)) (upd ro 2 (ordAt c i)) b) i b).1) (bfl (fun i b => bst m c D q (sHr m (ordAt c i) t) (h + hN (sHm m (ordAt c i) t)) (upd ro 2 (ordAt c i)) b) i b).2.1 = some (μ, mi', fl', ro', (bfl (fun i b => bst m c D q (sHr m (ordAt c i) t) (h + hN (sHm m (ordAt c i) t)) (upd ro 2 (ordAt c i)) b) (c + 2) b).2.2, nI (bfl (fun i b => bst m c D q (sHr m (ordAt c i) t) (h + hN (sHm m (ordAt c i) t)) (upd ro 2 (ordAt c i)) b) (c + 2) b).1, (bfl (fun i b => bst m c D q (sHr m (ordAt c i) t) (h + hN (sHm m (ordAt c i) t)) (upd ro 2 (ordAt c i)) b) (c + 2) b).2.1) ∧ (∀ p, p < 39 * 2 → mi' p = mi p) ∧ (∀ p, p < 2 → ro' p = ro p)
  | _, 0, _, _, _, _, _, h, _, _ => absurd h (Nat.not_lt_zero _)
  | 0, f + 1, i, mi, fl, rx, h0, _, hm, hx => by
    have e : i = c + 2 := by omega
    subst e
    unfold zf_X8_tryAll_l2_89 zf_X8_many
    rw [hM.2.1, ec, Option.bind_some, show nI c + 2 = nI (c + 2) from nI_add c 2, if_pos (i_le.mpr (Int.le_refl _))]
    exact ⟨_, _, _, rfl, fun _ _ => rfl, hx⟩
  | r + 1, f + 1, i, mi, fl, rx, h0, hf, hm, hx => by
    have hO := ordAt_ORD (m := m) hc8 ec (i := i) (by omega)
    obtain ⟨μ', s1, s2, -⟩ := step8 hM ht hO fl
    have hl := ble_1 (bfl_le (f := (fun i b => bst m c D q (sHr m (ordAt c i) t) (h + hN (sHm m (ordAt c i) t)) (upd ro 2 (ordAt c i)) b)) (fun i b => bst_le q _ _ _ b) i b)
    have hq := hN_le (sHm m (ordAt c i) t)
    obtain ⟨mi2, fl2, ro2, n1, n2, n3⟩ := tl3 (D := D) hc8 ec (by omega) hD s2 (TR_hr ht) (h := h + hN (sHm m (ordAt c i) t)) (by omega) mi (sFl m (ordAt c i) t) (upd rx 2 (ordAt c i)) (bfl (fun i b => bst m c D q (sHr m (ordAt c i) t) (h + hN (sHm m (ordAt c i) t)) (upd ro 2 (ordAt c i)) b) i b) (by omega)
    have eq1 : D - 3 = q := by omega
    have eb : bst m c D (D - 3) (sHr m (ordAt c i) t) (h + hN (sHm m (ordAt c i) t)) (upd rx 2 (ordAt c i)) (bfl (fun i b => bst m c D q (sHr m (ordAt c i) t) (h + hN (sHm m (ordAt c i) t)) (upd ro 2 (ordAt c i)) b) i b) = bfl (fun i b => bst m c D q (sHr m (ordAt c i) t) (h + hN (sHm m (ordAt c i) t)) (upd ro 2 (ordAt c i)) b) (i + 1) b := by
      rw [eq1]
      show _ = bst m c D q (sHr m (ordAt c i) t) (h + hN (sHm m (ordAt c i) t)) (upd ro 2 (ordAt c i)) (bfl (fun i b => bst m c D q (sHr m (ordAt c i) t) (h + hN (sHm m (ordAt c i) t)) (upd ro 2 (ordAt c i)) b) i b)
      refine bst_congr q _ _ _ _ _ (by omega) (fun p hp => ?_)
      by_cases e : p = 2
      · subst e; rw [upd_s, upd_s]
      · rw [upd_n e, upd_n e]; exact hx p (by omega)
    rw [eb] at n1
    have ly : zf_X8_lay 2 μ' mi2 = some μ := lay_keep (f := mi) (d := 2) (by decide) (fun j hj => (s2.2.2.2.2.2.2.2.2 j hj).trans (hM.2.2.2.2.2.2.2.2 j hj).symm) (fun j hj => (n2 _ (by omega)).trans (hm j hj))
    obtain ⟨mi3, fl3, ro3, k1, k2, k3⟩ := tl2_loop hc8 ec eD hD hM ht hh ro b hb r f (i + 1) mi2 fl2 ro2 (by omega) (by omega) (fun p hp => (n2 _ (by omega)).trans (hm p hp)) (fun p hp => (n3 p (by omega)).trans ((upd_n (by omega)).trans (hx p hp)))
    refine ⟨mi3, fl3, ro3, ?_, fun p hp => (k2 p hp).trans (n2 p (by omega)), k3⟩
    rw [← k1]
    conv => lhs; unfold zf_X8_tryAll_l2_89
    unfold zf_X8_many
    rw [hM.2.1, ec, Option.bind_some, show nI c + 2 = nI (c + 2) from nI_add c 2, if_neg (show ¬ nI (c + 2) ≤ nI i from nle (by omega) (by omega)), ordAt8 (m := μ) hc8 (hM.2.1.trans ec) (by omega), Option.bind_some, upd_s, s1, Option.bind_some]
    dsimp only
    rw [hN_I, n1, Option.bind_some]
    dsimp only
    rw [ly, Option.bind_some, nI_1]
theorem tl2 (hc8 : c ≤ 8) (ec : m 32 = nI c) (hd : 2 ≤ D) (hD : D ≤ 4) {t : T5} {μ : Nat → Int32} (hM : MSt m t μ) (ht : TR t) {h : Nat} (hh : h ≤ 2) (mi : Nat → Int32) (fl : Bool) (ro : Nat → Int32) (b : BB) (hb : b.1 ≤ 5) : ∃ mi' fl' ro', zf_X8_tryAll_l2 (nI D) (nI h) μ mi fl ro b.2.2 (nI b.1) b.2.1 = some (μ, mi', fl', ro', (bst m c D (D - 2) t h ro b).2.2, nI (bst m c D (D - 2) t h ro b).1, (bst m c D (D - 2) t h ro b).2.1) ∧ (∀ p, p < 39 * 2 → mi' p = mi p) ∧ (∀ p, p < 2 → ro' p = ro p) := by
  by_cases e : D = 2
  ·
    subst e
    rw [Nat.sub_self]
    exact ⟨mi, fl, ro, tl2_leaf hM (by omega) mi fl ro b hb, fun _ _ => rfl, fun _ _ => rfl⟩
  · obtain ⟨q, eD⟩ : ∃ q, D = 2 + (q + 1) := ⟨D - 3, by omega⟩
    have eq0 : D - 2 = q + 1 := by omega
    have eq2 : D - (q + 1) = 2 := by omega
    obtain ⟨mi', fl', ro', k1, k2, k3⟩ := tl2_loop hc8 ec eD hD hM ht hh ro b hb (c + 2) FU 0 (kp 2 μ mi) fl ro (by omega) (by show c + 2 < 2000; omega) (fun p hp => kp_at 2 μ mi p hp) (fun _ _ => rfl)
    refine ⟨mi', fl', ro', ?_, fun p hp => (k2 p hp).trans (by unfold kp; rw [if_neg (by omega)]), k3⟩
    have eb : bst m c D (q + 1) t h ro b = bfl (fun i b => bst m c D q (sHr m (ordAt c i) t) (h + hN (sHm m (ordAt c i) t)) (upd ro 2 (ordAt c i)) b) (c + 2) b := by
      conv => lhs; unfold bst
      rw [eq2]
    rw [eq0, eb, ← k1]
    unfold zf_X8_tryAll_l2
    have hk : zf_X8_keep 2 μ mi = some (kp 2 μ mi) := keepk μ mi (d := 2) (by decide)
    rw [if_neg (show ¬ (2 : Int32) = nI D from fun y => e ((nIeq (a := 2) (by decide) (by omega)).mp y).symm), hk, Option.bind_some]
    rfl
theorem tc1 (hD : D ≤ 4) (μ mi : Nat → Int32) (fl : Bool) (ro row0 : Nat → Int32) (H R : Int32) : ∀ (r f i : Nat) (row : Nat → Int32), i + r = D → r < f → row = cpo i ro row0 → zf_X8_tryAll_l1_54 f (nI D) (nI i) μ mi fl ro row H R = some (μ, mi, fl, ro, cpo D ro row0, H, R)
  | _, 0, _, _, _, h, _ => absurd h (Nat.not_lt_zero _)
  | 0, f + 1, i, row, hi, _, e => by
    have e' : i = D := by omega
    subst e'
    unfold zf_X8_tryAll_l1_54
    rw [if_pos (i_le.mpr (Int.le_refl _)), e]
  | r + 1, f + 1, i, row, hi, hf, e => by
    unfold zf_X8_tryAll_l1_54
    rw [if_neg (show ¬ nI D ≤ nI i from nle (by omega) (by omega)), if_pos (ix_nI (by omega) (by decide)), if_pos (ix_nI (by omega) (by decide)), cl_nI (by omega), nI_1]
    exact tc1 hD μ mi fl ro row0 H R r f (i + 1) _ (by omega) (by omega) (by rw [e, cpo_s])
theorem tl1_leaf {t : T5} {μ : Nat → Int32} (hM : MSt m t μ) {h : Nat} (hh : h ≤ 4) (mi : Nat → Int32) (fl : Bool) (ro : Nat → Int32) (b : BB) (hb : b.1 ≤ 5) : zf_X8_tryAll_l1 (nI 1) (nI h) μ mi fl ro b.2.2 (nI b.1) b.2.1 = some (μ, mi, fl, ro, (bLeaf 1 h t ro b).2.2, nI (bLeaf 1 h t ro b).1, (bLeaf 1 h t ro b).2.1) := by
  have e1 := tc1 (D := 1) (by decide) μ mi fl ro b.2.2 (nI h) (μ 33) 1 FU 0 b.2.2 (by decide) (by show 1 < 2000; omega) (cpo_0 _ _).symm
  have e2 : zf_X8_tryAll_l1_35 (nI 1) (nI h) μ mi fl ro b.2.2 (nI b.1) b.2.1 = _ := e1
  unfold zf_X8_tryAll_l1 bLeaf
  rw [if_pos (by decide), e2, hM.2.2.1]
  by_cases z : h < b.1
  · rw [if_pos (show nI h < nI b.1 from (nIlt (by omega) (by omega)).mpr z), if_pos (show bts h t.1 b from Or.inl z)]
  · rw [if_neg (show ¬ nI h < nI b.1 from fun y => z ((nIlt (by omega) (by omega)).mp y))]
    by_cases y : h = b.1
    · rw [if_pos (show nI h = nI b.1 from by rw [y])]
      by_cases x : b.2.1 ≤ t.1
      · rw [if_pos x, if_neg (show ¬ bts h t.1 b from fun q => by have := i_le.mp x; unfold bts at q; omega)]
      · rw [if_neg x, if_pos (show bts h t.1 b from Or.inr ⟨y, by have := i_lt.mp (Int32.not_le.mp x); omega⟩)]
    · rw [if_neg (show ¬ nI h = nI b.1 from fun q => y ((nIeq (by omega) (by omega)).mp q)), if_neg (show ¬ bts h t.1 b from fun q => by unfold bts at q; omega)]
theorem tl1_loop (hc8 : c ≤ 8) (ec : m 32 = nI c) {q : Nat} (eD : D = 1 + (q + 1)) (hD : D ≤ 4) {t : T5} {μ : Nat → Int32} (hM : MSt m t μ) (ht : TR t) {h : Nat} (hh : h ≤ 1) (ro : Nat → Int32) (b : BB) (hb : b.1 ≤ 5) : ∀ (r f i : Nat) (mi : Nat → Int32) (fl : Bool) (rx : Nat → Int32), i + r = c + 2 → r < f → (∀ p, p < 39 → mi (39 * 1 + p) = μ p) → (∀ p, p < 1 → rx p = ro p) → ∃ mi' fl' ro', zf_X8_tryAll_l1_89 f (nI D) (nI h) (nI i) μ mi fl rx (bfl (fun i b => bst m c D q (sHr m (ordAt c i) t) (h + hN (sHm m (ordAt c i) t)) (upd ro 1 (ordAt c i)) b) i b).2.2 (nI (bfl (fun i b => bst m c D q (sHr m (ordAt c i) t) (h + hN (sHm m (ordAt c i) t)) (upd ro 1 (ordAt c i)) b) i b).1) (bfl (fun i b => bst m c D q (sHr m (ordAt c i) t) (h + hN (sHm m (ordAt c i) t)) (upd ro 1 (ordAt c i)) b) i b).2.1 = some (μ, mi', fl', ro', (bfl (fun i b => bst m c D q (sHr m (ordAt c i) t) (h + hN (sHm m (ordAt c i) t)) (upd ro 1 (ordAt c i)) b) (c + 2) b).2.2, nI (bfl (fun i b => bst m c D q (sHr m (ordAt c i) t) (h + hN (sHm m (ordAt c i) t)) (upd ro 1 (ordAt c i)) b) (c + 2) b).1, (bfl (fun i b => bst m c D q (sHr m (ordAt c i) t) (h + hN (sHm m (ordAt c i) t)) (upd ro 1 (ordAt c i)) b) (c + 2) b).2.1) ∧ (∀ p, p < 39 * 1 → mi' p = mi p) ∧ (∀ p, p < 1 → ro' p = ro p)
  | _, 0, _, _, _, _, _, h, _, _ => absurd h (Nat.not_lt_zero _)
  | 0, f + 1, i, mi, fl, rx, h0, _, hm, hx => by
    have e : i = c + 2 := by omega
    subst e
    unfold zf_X8_tryAll_l1_89 zf_X8_many
    rw [hM.2.1, ec, Option.bind_some, show nI c + 2 = nI (c + 2) from nI_add c 2, if_pos (i_le.mpr (Int.le_refl _))]
    exact ⟨_, _, _, rfl, fun _ _ => rfl, hx⟩
  | r + 1, f + 1, i, mi, fl, rx, h0, hf, hm, hx => by
    have hO := ordAt_ORD (m := m) hc8 ec (i := i) (by omega)
    obtain ⟨μ', s1, s2, -⟩ := step8 hM ht hO fl
    have hl := ble_1 (bfl_le (f := (fun i b => bst m c D q (sHr m (ordAt c i) t) (h + hN (sHm m (ordAt c i) t)) (upd ro 1 (ordAt c i)) b)) (fun i b => bst_le q _ _ _ b) i b)
    have hq := hN_le (sHm m (ordAt c i) t)
    obtain ⟨mi2, fl2, ro2, n1, n2, n3⟩ := tl2 (D := D) hc8 ec (by omega) hD s2 (TR_hr ht) (h := h + hN (sHm m (ordAt c i) t)) (by omega) mi (sFl m (ordAt c i) t) (upd rx 1 (ordAt c i)) (bfl (fun i b => bst m c D q (sHr m (ordAt c i) t) (h + hN (sHm m (ordAt c i) t)) (upd ro 1 (ordAt c i)) b) i b) (by omega)
    have eq1 : D - 2 = q := by omega
    have eb : bst m c D (D - 2) (sHr m (ordAt c i) t) (h + hN (sHm m (ordAt c i) t)) (upd rx 1 (ordAt c i)) (bfl (fun i b => bst m c D q (sHr m (ordAt c i) t) (h + hN (sHm m (ordAt c i) t)) (upd ro 1 (ordAt c i)) b) i b) = bfl (fun i b => bst m c D q (sHr m (ordAt c i) t) (h + hN (sHm m (ordAt c i) t)) (upd ro 1 (ordAt c i)) b) (i + 1) b := by
      rw [eq1]
      show _ = bst m c D q (sHr m (ordAt c i) t) (h + hN (sHm m (ordAt c i) t)) (upd ro 1 (ordAt c i)) (bfl (fun i b => bst m c D q (sHr m (ordAt c i) t) (h + hN (sHm m (ordAt c i) t)) (upd ro 1 (ordAt c i)) b) i b)
      refine bst_congr q _ _ _ _ _ (by omega) (fun p hp => ?_)
      by_cases e : p = 1
      · subst e; rw [upd_s, upd_s]
      · rw [upd_n e, upd_n e]; exact hx p (by omega)
    rw [eb] at n1
    have ly : zf_X8_lay 1 μ' mi2 = some μ := lay_keep (f := mi) (d := 1) (by decide) (fun j hj => (s2.2.2.2.2.2.2.2.2 j hj).trans (hM.2.2.2.2.2.2.2.2 j hj).symm) (fun j hj => (n2 _ (by omega)).trans (hm j hj))
    obtain ⟨mi3, fl3, ro3, k1, k2, k3⟩ := tl1_loop hc8 ec eD hD hM ht hh ro b hb r f (i + 1) mi2 fl2 ro2 (by omega) (by omega) (fun p hp => (n2 _ (by omega)).trans (hm p hp)) (fun p hp => (n3 p (by omega)).trans ((upd_n (by omega)).trans (hx p hp)))
    refine ⟨mi3, fl3, ro3, ?_, fun p hp => (k2 p hp).trans (n2 p (by omega)), k3⟩
    rw [← k1]
    conv => lhs; unfold zf_X8_tryAll_l1_89
    unfold zf_X8_many
    rw [hM.2.1, ec, Option.bind_some, show nI c + 2 = nI (c + 2) from nI_add c 2, if_neg (show ¬ nI (c + 2) ≤ nI i from nle (by omega) (by omega)), ordAt8 (m := μ) hc8 (hM.2.1.trans ec) (by omega), Option.bind_some, upd_s, s1, Option.bind_some]
    dsimp only
    rw [hN_I, n1, Option.bind_some]
    dsimp only
    rw [ly, Option.bind_some, nI_1]
theorem tl1 (hc8 : c ≤ 8) (ec : m 32 = nI c) (hd : 1 ≤ D) (hD : D ≤ 4) {t : T5} {μ : Nat → Int32} (hM : MSt m t μ) (ht : TR t) {h : Nat} (hh : h ≤ 1) (mi : Nat → Int32) (fl : Bool) (ro : Nat → Int32) (b : BB) (hb : b.1 ≤ 5) : ∃ mi' fl' ro', zf_X8_tryAll_l1 (nI D) (nI h) μ mi fl ro b.2.2 (nI b.1) b.2.1 = some (μ, mi', fl', ro', (bst m c D (D - 1) t h ro b).2.2, nI (bst m c D (D - 1) t h ro b).1, (bst m c D (D - 1) t h ro b).2.1) ∧ (∀ p, p < 39 * 1 → mi' p = mi p) ∧ (∀ p, p < 1 → ro' p = ro p) := by
  by_cases e : D = 1
  ·
    subst e
    rw [Nat.sub_self]
    exact ⟨mi, fl, ro, tl1_leaf hM (by omega) mi fl ro b hb, fun _ _ => rfl, fun _ _ => rfl⟩
  · obtain ⟨q, eD⟩ : ∃ q, D = 1 + (q + 1) := ⟨D - 2, by omega⟩
    have eq0 : D - 1 = q + 1 := by omega
    have eq2 : D - (q + 1) = 1 := by omega
    obtain ⟨mi', fl', ro', k1, k2, k3⟩ := tl1_loop hc8 ec eD hD hM ht hh ro b hb (c + 2) FU 0 (kp 1 μ mi) fl ro (by omega) (by show c + 2 < 2000; omega) (fun p hp => kp_at 1 μ mi p hp) (fun _ _ => rfl)
    refine ⟨mi', fl', ro', ?_, fun p hp => (k2 p hp).trans (by unfold kp; rw [if_neg (by omega)]), k3⟩
    have eb : bst m c D (q + 1) t h ro b = bfl (fun i b => bst m c D q (sHr m (ordAt c i) t) (h + hN (sHm m (ordAt c i) t)) (upd ro 1 (ordAt c i)) b) (c + 2) b := by
      conv => lhs; unfold bst
      rw [eq2]
    rw [eq0, eb, ← k1]
    unfold zf_X8_tryAll_l1
    have hk : zf_X8_keep 1 μ mi = some (kp 1 μ mi) := keepk μ mi (d := 1) (by decide)
    rw [if_neg (show ¬ (1 : Int32) = nI D from fun y => e ((nIeq (a := 1) (by decide) (by omega)).mp y).symm), hk, Option.bind_some]
    rfl
theorem tc0 (hD : D ≤ 4) (μ mi : Nat → Int32) (fl : Bool) (ro row0 : Nat → Int32) (H R : Int32) : ∀ (r f i : Nat) (row : Nat → Int32), i + r = D → r < f → row = cpo i ro row0 → zf_X8_tryAll_l0_54 f (nI D) (nI i) μ mi fl ro row H R = some (μ, mi, fl, ro, cpo D ro row0, H, R)
  | _, 0, _, _, _, h, _ => absurd h (Nat.not_lt_zero _)
  | 0, f + 1, i, row, hi, _, e => by
    have e' : i = D := by omega
    subst e'
    unfold zf_X8_tryAll_l0_54
    rw [if_pos (i_le.mpr (Int.le_refl _)), e]
  | r + 1, f + 1, i, row, hi, hf, e => by
    unfold zf_X8_tryAll_l0_54
    rw [if_neg (show ¬ nI D ≤ nI i from nle (by omega) (by omega)), if_pos (ix_nI (by omega) (by decide)), if_pos (ix_nI (by omega) (by decide)), cl_nI (by omega), nI_1]
    exact tc0 hD μ mi fl ro row0 H R r f (i + 1) _ (by omega) (by omega) (by rw [e, cpo_s])
theorem tl0_leaf {t : T5} {μ : Nat → Int32} (hM : MSt m t μ) {h : Nat} (hh : h ≤ 4) (mi : Nat → Int32) (fl : Bool) (ro : Nat → Int32) (b : BB) (hb : b.1 ≤ 5) : zf_X8_tryAll_l0 (nI 0) (nI h) μ mi fl ro b.2.2 (nI b.1) b.2.1 = some (μ, mi, fl, ro, (bLeaf 0 h t ro b).2.2, nI (bLeaf 0 h t ro b).1, (bLeaf 0 h t ro b).2.1) := by
  have e1 := tc0 (D := 0) (by decide) μ mi fl ro b.2.2 (nI h) (μ 33) 0 FU 0 b.2.2 (by decide) (by show 0 < 2000; omega) (cpo_0 _ _).symm
  have e2 : zf_X8_tryAll_l0_35 (nI 0) (nI h) μ mi fl ro b.2.2 (nI b.1) b.2.1 = _ := e1
  unfold zf_X8_tryAll_l0 bLeaf
  rw [if_pos (by decide), e2, hM.2.2.1]
  by_cases z : h < b.1
  · rw [if_pos (show nI h < nI b.1 from (nIlt (by omega) (by omega)).mpr z), if_pos (show bts h t.1 b from Or.inl z)]
  · rw [if_neg (show ¬ nI h < nI b.1 from fun y => z ((nIlt (by omega) (by omega)).mp y))]
    by_cases y : h = b.1
    · rw [if_pos (show nI h = nI b.1 from by rw [y])]
      by_cases x : b.2.1 ≤ t.1
      · rw [if_pos x, if_neg (show ¬ bts h t.1 b from fun q => by have := i_le.mp x; unfold bts at q; omega)]
      · rw [if_neg x, if_pos (show bts h t.1 b from Or.inr ⟨y, by have := i_lt.mp (Int32.not_le.mp x); omega⟩)]
    · rw [if_neg (show ¬ nI h = nI b.1 from fun q => y ((nIeq (by omega) (by omega)).mp q)), if_neg (show ¬ bts h t.1 b from fun q => by unfold bts at q; omega)]
theorem tl0_loop (hc8 : c ≤ 8) (ec : m 32 = nI c) {q : Nat} (eD : D = 0 + (q + 1)) (hD : D ≤ 4) {t : T5} {μ : Nat → Int32} (hM : MSt m t μ) (ht : TR t) {h : Nat} (hh : h ≤ 0) (ro : Nat → Int32) (b : BB) (hb : b.1 ≤ 5) : ∀ (r f i : Nat) (mi : Nat → Int32) (fl : Bool) (rx : Nat → Int32), i + r = c + 2 → r < f → (∀ p, p < 39 → mi (39 * 0 + p) = μ p) → (∀ p, p < 0 → rx p = ro p) → ∃ mi' fl' ro', zf_X8_tryAll_l0_89 f (nI D) (nI h) (nI i) μ mi fl rx (bfl (fun i b => bst m c D q (sHr m (ordAt c i) t) (h + hN (sHm m (ordAt c i) t)) (upd ro 0 (ordAt c i)) b) i b).2.2 (nI (bfl (fun i b => bst m c D q (sHr m (ordAt c i) t) (h + hN (sHm m (ordAt c i) t)) (upd ro 0 (ordAt c i)) b) i b).1) (bfl (fun i b => bst m c D q (sHr m (ordAt c i) t) (h + hN (sHm m (ordAt c i) t)) (upd ro 0 (ordAt c i)) b) i b).2.1 = some (μ, mi', fl', ro', (bfl (fun i b => bst m c D q (sHr m (ordAt c i) t) (h + hN (sHm m (ordAt c i) t)) (upd ro 0 (ordAt c i)) b) (c + 2) b).2.2, nI (bfl (fun i b => bst m c D q (sHr m (ordAt c i) t) (h + hN (sHm m (ordAt c i) t)) (upd ro 0 (ordAt c i)) b) (c + 2) b).1, (bfl (fun i b => bst m c D q (sHr m (ordAt c i) t) (h + hN (sHm m (ordAt c i) t)) (upd ro 0 (ordAt c i)) b) (c + 2) b).2.1) ∧ (∀ p, p < 39 * 0 → mi' p = mi p) ∧ (∀ p, p < 0 → ro' p = ro p)
  | _, 0, _, _, _, _, _, h, _, _ => absurd h (Nat.not_lt_zero _)
  | 0, f + 1, i, mi, fl, rx, h0, _, hm, hx => by
    have e : i = c + 2 := by omega
    subst e
    unfold zf_X8_tryAll_l0_89 zf_X8_many
    rw [hM.2.1, ec, Option.bind_some, show nI c + 2 = nI (c + 2) from nI_add c 2, if_pos (i_le.mpr (Int.le_refl _))]
    exact ⟨_, _, _, rfl, fun _ _ => rfl, hx⟩
  | r + 1, f + 1, i, mi, fl, rx, h0, hf, hm, hx => by
    have hO := ordAt_ORD (m := m) hc8 ec (i := i) (by omega)
    obtain ⟨μ', s1, s2, -⟩ := step8 hM ht hO fl
    have hl := ble_1 (bfl_le (f := (fun i b => bst m c D q (sHr m (ordAt c i) t) (h + hN (sHm m (ordAt c i) t)) (upd ro 0 (ordAt c i)) b)) (fun i b => bst_le q _ _ _ b) i b)
    have hq := hN_le (sHm m (ordAt c i) t)
    obtain ⟨mi2, fl2, ro2, n1, n2, n3⟩ := tl1 (D := D) hc8 ec (by omega) hD s2 (TR_hr ht) (h := h + hN (sHm m (ordAt c i) t)) (by omega) mi (sFl m (ordAt c i) t) (upd rx 0 (ordAt c i)) (bfl (fun i b => bst m c D q (sHr m (ordAt c i) t) (h + hN (sHm m (ordAt c i) t)) (upd ro 0 (ordAt c i)) b) i b) (by omega)
    have eq1 : D - 1 = q := by omega
    have eb : bst m c D (D - 1) (sHr m (ordAt c i) t) (h + hN (sHm m (ordAt c i) t)) (upd rx 0 (ordAt c i)) (bfl (fun i b => bst m c D q (sHr m (ordAt c i) t) (h + hN (sHm m (ordAt c i) t)) (upd ro 0 (ordAt c i)) b) i b) = bfl (fun i b => bst m c D q (sHr m (ordAt c i) t) (h + hN (sHm m (ordAt c i) t)) (upd ro 0 (ordAt c i)) b) (i + 1) b := by
      rw [eq1]
      show _ = bst m c D q (sHr m (ordAt c i) t) (h + hN (sHm m (ordAt c i) t)) (upd ro 0 (ordAt c i)) (bfl (fun i b => bst m c D q (sHr m (ordAt c i) t) (h + hN (sHm m (ordAt c i) t)) (upd ro 0 (ordAt c i)) b) i b)
      refine bst_congr q _ _ _ _ _ (by omega) (fun p hp => ?_)
      by_cases e : p = 0
      · subst e; rw [upd_s, upd_s]
      · rw [upd_n e, upd_n e]; exact hx p (by omega)
    rw [eb] at n1
    have ly : zf_X8_lay 0 μ' mi2 = some μ := lay_keep (f := mi) (d := 0) (by decide) (fun j hj => (s2.2.2.2.2.2.2.2.2 j hj).trans (hM.2.2.2.2.2.2.2.2 j hj).symm) (fun j hj => (n2 _ (by omega)).trans (hm j hj))
    obtain ⟨mi3, fl3, ro3, k1, k2, k3⟩ := tl0_loop hc8 ec eD hD hM ht hh ro b hb r f (i + 1) mi2 fl2 ro2 (by omega) (by omega) (fun p hp => (n2 _ (by omega)).trans (hm p hp)) (fun p hp => (n3 p (by omega)).trans ((upd_n (by omega)).trans (hx p hp)))
    refine ⟨mi3, fl3, ro3, ?_, fun p hp => (k2 p hp).trans (n2 p (by omega)), k3⟩
    rw [← k1]
    conv => lhs; unfold zf_X8_tryAll_l0_89
    unfold zf_X8_many
    rw [hM.2.1, ec, Option.bind_some, show nI c + 2 = nI (c + 2) from nI_add c 2, if_neg (show ¬ nI (c + 2) ≤ nI i from nle (by omega) (by omega)), ordAt8 (m := μ) hc8 (hM.2.1.trans ec) (by omega), Option.bind_some, upd_s, s1, Option.bind_some]
    dsimp only
    rw [hN_I, n1, Option.bind_some]
    dsimp only
    rw [ly, Option.bind_some, nI_1]
theorem tl0 (hc8 : c ≤ 8) (ec : m 32 = nI c) (hd : 0 ≤ D) (hD : D ≤ 4) {t : T5} {μ : Nat → Int32} (hM : MSt m t μ) (ht : TR t) {h : Nat} (hh : h ≤ 0) (mi : Nat → Int32) (fl : Bool) (ro : Nat → Int32) (b : BB) (hb : b.1 ≤ 5) : ∃ mi' fl' ro', zf_X8_tryAll_l0 (nI D) (nI h) μ mi fl ro b.2.2 (nI b.1) b.2.1 = some (μ, mi', fl', ro', (bst m c D (D - 0) t h ro b).2.2, nI (bst m c D (D - 0) t h ro b).1, (bst m c D (D - 0) t h ro b).2.1) ∧ (∀ p, p < 39 * 0 → mi' p = mi p) ∧ (∀ p, p < 0 → ro' p = ro p) := by
  by_cases e : D = 0
  ·
    subst e
    rw [Nat.sub_self]
    exact ⟨mi, fl, ro, tl0_leaf hM (by omega) mi fl ro b hb, fun _ _ => rfl, fun _ _ => rfl⟩
  · obtain ⟨q, eD⟩ : ∃ q, D = 0 + (q + 1) := ⟨D - 1, by omega⟩
    have eq0 : D - 0 = q + 1 := by omega
    have eq2 : D - (q + 1) = 0 := by omega
    obtain ⟨mi', fl', ro', k1, k2, k3⟩ := tl0_loop hc8 ec eD hD hM ht hh ro b hb (c + 2) FU 0 (kp 0 μ mi) fl ro (by omega) (by show c + 2 < 2000; omega) (fun p hp => kp_at 0 μ mi p hp) (fun _ _ => rfl)
    refine ⟨mi', fl', ro', ?_, fun p hp => (k2 p hp).trans (by unfold kp; rw [if_neg (by omega)]), k3⟩
    have eb : bst m c D (q + 1) t h ro b = bfl (fun i b => bst m c D q (sHr m (ordAt c i) t) (h + hN (sHm m (ordAt c i) t)) (upd ro 0 (ordAt c i)) b) (c + 2) b := by
      conv => lhs; unfold bst
      rw [eq2]
    rw [eq0, eb, ← k1]
    unfold zf_X8_tryAll_l0
    have hk : zf_X8_keep 0 μ mi = some (kp 0 μ mi) := keepk μ mi (d := 0) (by decide)
    rw [if_neg (show ¬ (0 : Int32) = nI D from fun y => e ((nIeq (a := 0) (by decide) (by omega)).mp y).symm), hk, Option.bind_some]
    rfl
