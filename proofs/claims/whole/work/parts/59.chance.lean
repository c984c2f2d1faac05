/-! pure rows: odds, the model's side -/
variable {te : TTe} {st : TSt} {m : Nat → Int32} {rf rfd mi : Nat → Int32}
abbrev nL (n : Nat) : Int64 := Int64.ofNat n
theorem nL_add (a b : Nat) : nL a + nL b = nL (a + b) := (Int64.ofNat_add a b).symm
theorem nL_acc (x : Int64) (a b : Nat) : x + nL a + nL b = x + nL (a + b) := by rw [Int64.add_assoc, nL_add]
theorem nL_t {n : Nat} (h : n < 9223372036854775808) : (nL n).toInt = n := by
  rw [Int64.toInt_ofNat_of_lt h]
theorem nI_L {n : Nat} (h : n < 2147483648) : (nI n).toInt64 = nL n := l_eq.mpr (by rw [i_w, nI_t h, nL_t (by omega)])
theorem SH_0 (c : Nat) (t : T5) (b : Bool) : SH m c 0 t b = if b = true then 1 else 0 := by
  show 0 + (if (b || false) = true then 1 else 0) = _
  rw [Bool.or_false, Nat.zero_add]
theorem SR_0 (c : Nat) (t : T5) : SR m c 0 t = t.1.toInt.toNat := Nat.zero_add _
theorem rg_L {t : T5} (ht : TR t) : t.1.toInt64 = nL t.1.toInt.toNat := l_eq.mpr (by have := ht.1; rw [i_w, nL_t (by omega)]; omega)
theorem ch3_0 {t : T5} {μ : Nat → Int32} (c : Nat) (hM : MSt m t μ) (ht : TR t) (b : Bool) (mi : Nat → Int32) (fl : Bool) (H R : Int64) : ∃ mi' fl', zf_X8_chance_l3 (nI 3) b μ mi fl H R = some (μ, mi', fl', H + nL (SH m c 0 t b), R + nL (SR m c 0 t)) ∧ ∀ p, p < 39 * 3 → mi' p = mi p := by
  unfold zf_X8_chance_l3
  rw [if_pos (by decide)]
  unfold zf_X8_chance_l3_19
  rw [hM.2.2.1, rg_L ht, SH_0, SR_0]
  cases b
  · exact ⟨_, _, rfl, fun _ _ => rfl⟩
  · exact ⟨_, _, rfl, fun _ _ => rfl⟩
theorem ch2_2 {t : T5} {μ : Nat → Int32} (c : Nat) (hM : MSt m t μ) (ht : TR t) (b : Bool) (mi : Nat → Int32) (fl : Bool) (H R : Int64) : ∃ mi' fl', zf_X8_chance_l2 (nI 2) b μ mi fl H R = some (μ, mi', fl', H + nL (SH m c 0 t b), R + nL (SR m c 0 t)) ∧ ∀ p, p < 39 * 2 → mi' p = mi p := by
  unfold zf_X8_chance_l2
  rw [if_pos (by decide)]
  unfold zf_X8_chance_l2_19
  rw [hM.2.2.1, rg_L ht, SH_0, SR_0]
  cases b
  · exact ⟨_, _, rfl, fun _ _ => rfl⟩
  · exact ⟨_, _, rfl, fun _ _ => rfl⟩
theorem ch2_3_loop {t : T5} {μ : Nat → Int32} {c : Nat} (hc8 : c ≤ 8) (ec : m 32 = nI c) (hM : MSt m t μ) (ht : TR t) (b : Bool) (H R : Int64) : ∀ (r f k : Nat) (mi : Nat → Int32) (fl : Bool), k + r = c → r < f → (∀ p, p < 39 → mi (39 * 2 + p) = μ p) → ∃ mi' fl', zf_X8_chance_l2_49 f (nI 3) b (nI k) μ mi fl (H + nL (sumN (fun k => SH m c 0 (sHr m (nI k) t) (b || sHm m (nI k) t)) k)) (R + nL (sumN (fun k => SR m c 0 (sHr m (nI k) t)) k)) = some (μ, mi', fl', H + nL (sumN (fun k => SH m c 0 (sHr m (nI k) t) (b || sHm m (nI k) t)) c), R + nL (sumN (fun k => SR m c 0 (sHr m (nI k) t)) c)) ∧ ∀ p, p < 39 * 2 → mi' p = mi p
  | _, 0, _, _, _, _, h, _ => absurd h (Nat.not_lt_zero _)
  | 0, f + 1, k, mi, fl, h0, _, hm => by
    have e : k = c := by omega
    subst e
    unfold zf_X8_chance_l2_49 zf_X8_many
    rw [hM.2.1, ec, Option.bind_some, if_pos (i_le.mpr (Int.le_refl _))]
    exact ⟨_, _, rfl, fun _ _ => rfl⟩
  | r + 1, f + 1, k, mi, fl, h0, hf, hm => by
    have hk : nI k < m 32 := by rw [ec]; exact (nIlt (by omega) (by omega)).mpr (by omega)
    obtain ⟨μ', s1, s2, -⟩ := step8 hM ht (o := nI k) (Or.inr (Or.inr ⟨k, by omega, hk, rfl⟩)) fl
    obtain ⟨mi2, fl2, n1, n2⟩ := ch3_0 c s2 (TR_hr ht) (b || sHm m (nI k) t) mi (sFl m (nI k) t) (H + nL (sumN (fun k => SH m c 0 (sHr m (nI k) t) (b || sHm m (nI k) t)) k)) (R + nL (sumN (fun k => SR m c 0 (sHr m (nI k) t)) k))
    have ly : zf_X8_lay 2 μ' mi2 = some μ := lay_keep (f := mi) (d := 2) (by decide) (fun j hj => (s2.2.2.2.2.2.2.2.2 j hj).trans (hM.2.2.2.2.2.2.2.2 j hj).symm) (fun j hj => (n2 _ (by omega)).trans (hm j hj))
    obtain ⟨mi3, fl3, k1, k2⟩ := ch2_3_loop hc8 ec hM ht b H R r f (k + 1) mi2 fl2 (by omega) (by omega) (fun p hp => (n2 _ (by omega)).trans (hm p hp))
    refine ⟨mi3, fl3, ?_, fun p hp => (k2 p hp).trans (n2 p (by omega))⟩
    rw [← k1]
    show _ = zf_X8_chance_l2_49 f (nI 3) b (nI (k + 1)) μ mi2 fl2 (H + nL (sumN _ k + _)) (R + nL (sumN _ k + _))
    rw [← nL_acc, ← nL_acc]
    conv => lhs; unfold zf_X8_chance_l2_49
    unfold zf_X8_many zf_X8_chance_l2_81 zf_X8_chance_l2_86
    rw [hM.2.1, ec, Option.bind_some, if_neg (show ¬ nI c ≤ nI k from nle (by omega) (by omega)), s1, Option.bind_some]
    dsimp only
    have fin : (if b = true then Option.bind (zf_X8_chance_l3 (nI 3) true μ' mi (sFl m (nI k) t) (H + nL (sumN (fun k => SH m c 0 (sHr m (nI k) t) (b || sHm m (nI k) t)) k)) (R + nL (sumN (fun k => SR m c 0 (sHr m (nI k) t)) k))) (fun u9 => Option.bind (zf_X8_lay 2 u9.1 u9.2.1) (fun u10 => zf_X8_chance_l2_49 f (nI 3) b (nI k + 1) u10 u9.2.1 u9.2.2.1 u9.2.2.2.1 u9.2.2.2.2)) else if bI (sHm m (nI k) t) = 1 then Option.bind (zf_X8_chance_l3 (nI 3) true μ' mi (sFl m (nI k) t) (H + nL (sumN (fun k => SH m c 0 (sHr m (nI k) t) (b || sHm m (nI k) t)) k)) (R + nL (sumN (fun k => SR m c 0 (sHr m (nI k) t)) k))) (fun u9 => Option.bind (zf_X8_lay 2 u9.1 u9.2.1) (fun u10 => zf_X8_chance_l2_49 f (nI 3) b (nI k + 1) u10 u9.2.1 u9.2.2.1 u9.2.2.2.1 u9.2.2.2.2)) else Option.bind (zf_X8_chance_l3 (nI 3) false μ' mi (sFl m (nI k) t) (H + nL (sumN (fun k => SH m c 0 (sHr m (nI k) t) (b || sHm m (nI k) t)) k)) (R + nL (sumN (fun k => SR m c 0 (sHr m (nI k) t)) k))) (fun u9 => Option.bind (zf_X8_lay 2 u9.1 u9.2.1) (fun u10 => zf_X8_chance_l2_49 f (nI 3) b (nI k + 1) u10 u9.2.1 u9.2.2.1 u9.2.2.2.1 u9.2.2.2.2))) = Option.bind (zf_X8_chance_l3 (nI 3) (b || sHm m (nI k) t) μ' mi (sFl m (nI k) t) (H + nL (sumN (fun k => SH m c 0 (sHr m (nI k) t) (b || sHm m (nI k) t)) k)) (R + nL (sumN (fun k => SR m c 0 (sHr m (nI k) t)) k))) (fun u9 => Option.bind (zf_X8_lay 2 u9.1 u9.2.1) (fun u10 => zf_X8_chance_l2_49 f (nI 3) b (nI k + 1) u10 u9.2.1 u9.2.2.1 u9.2.2.2.1 u9.2.2.2.2)) := by
      cases b
      · rw [if_neg Bool.false_ne_true, Bool.false_or]
        cases sHm m (nI k) t
        · rw [if_neg (show ¬ bI false = 1 by decide)]
        · rw [if_pos (show bI true = 1 by decide)]
      · rw [if_pos rfl, Bool.true_or]
    rw [fin, n1, Option.bind_some]
    dsimp only
    rw [ly, Option.bind_some, nI_1]
theorem ch2_3 {t : T5} {μ : Nat → Int32} (c : Nat) (hc8 : c ≤ 8) (ec : m 32 = nI c) (hM : MSt m t μ) (ht : TR t) (b : Bool) (mi : Nat → Int32) (fl : Bool) (H R : Int64) : ∃ mi' fl', zf_X8_chance_l2 (nI 3) b μ mi fl H R = some (μ, mi', fl', H + nL (SH m c 1 t b), R + nL (SR m c 1 t)) ∧ ∀ p, p < 39 * 2 → mi' p = mi p := by
  obtain ⟨mi', fl', k1, k2⟩ := ch2_3_loop hc8 ec hM ht b H R c FU 0 (kp 2 μ mi) fl (by omega) (by show c < 2000; omega) (fun p hp => kp_at 2 μ mi p hp)
  refine ⟨mi', fl', ?_, fun p hp => (k2 p hp).trans (by unfold kp; rw [if_neg (by omega)])⟩
  rw [SH_s, SR_s, ← k1]
  unfold zf_X8_chance_l2
  have hk : zf_X8_keep 2 μ mi = some (kp 2 μ mi) := keepk μ mi (d := 2) (by decide)
  rw [if_neg (by decide), hk, Option.bind_some]
  show zf_X8_chance_l2_49 FU (nI 3) b 0 μ (kp 2 μ mi) fl H R = zf_X8_chance_l2_49 FU (nI 3) b 0 μ (kp 2 μ mi) fl (H + 0) (R + 0)
  rw [Int64.add_zero, Int64.add_zero]
theorem ch1_1 {t : T5} {μ : Nat → Int32} (c : Nat) (hM : MSt m t μ) (ht : TR t) (b : Bool) (mi : Nat → Int32) (fl : Bool) (H R : Int64) : ∃ mi' fl', zf_X8_chance_l1 (nI 1) b μ mi fl H R = some (μ, mi', fl', H + nL (SH m c 0 t b), R + nL (SR m c 0 t)) ∧ ∀ p, p < 39 * 1 → mi' p = mi p := by
  unfold zf_X8_chance_l1
  rw [if_pos (by decide)]
  unfold zf_X8_chance_l1_19
  rw [hM.2.2.1, rg_L ht, SH_0, SR_0]
  cases b
  · exact ⟨_, _, rfl, fun _ _ => rfl⟩
  · exact ⟨_, _, rfl, fun _ _ => rfl⟩
theorem ch1_2_loop {t : T5} {μ : Nat → Int32} {c : Nat} (hc8 : c ≤ 8) (ec : m 32 = nI c) (hM : MSt m t μ) (ht : TR t) (b : Bool) (H R : Int64) : ∀ (r f k : Nat) (mi : Nat → Int32) (fl : Bool), k + r = c → r < f → (∀ p, p < 39 → mi (39 * 1 + p) = μ p) → ∃ mi' fl', zf_X8_chance_l1_49 f (nI 2) b (nI k) μ mi fl (H + nL (sumN (fun k => SH m c 0 (sHr m (nI k) t) (b || sHm m (nI k) t)) k)) (R + nL (sumN (fun k => SR m c 0 (sHr m (nI k) t)) k)) = some (μ, mi', fl', H + nL (sumN (fun k => SH m c 0 (sHr m (nI k) t) (b || sHm m (nI k) t)) c), R + nL (sumN (fun k => SR m c 0 (sHr m (nI k) t)) c)) ∧ ∀ p, p < 39 * 1 → mi' p = mi p
  | _, 0, _, _, _, _, h, _ => absurd h (Nat.not_lt_zero _)
  | 0, f + 1, k, mi, fl, h0, _, hm => by
    have e : k = c := by omega
    subst e
    unfold zf_X8_chance_l1_49 zf_X8_many
    rw [hM.2.1, ec, Option.bind_some, if_pos (i_le.mpr (Int.le_refl _))]
    exact ⟨_, _, rfl, fun _ _ => rfl⟩
  | r + 1, f + 1, k, mi, fl, h0, hf, hm => by
    have hk : nI k < m 32 := by rw [ec]; exact (nIlt (by omega) (by omega)).mpr (by omega)
    obtain ⟨μ', s1, s2, -⟩ := step8 hM ht (o := nI k) (Or.inr (Or.inr ⟨k, by omega, hk, rfl⟩)) fl
    obtain ⟨mi2, fl2, n1, n2⟩ := ch2_2 c s2 (TR_hr ht) (b || sHm m (nI k) t) mi (sFl m (nI k) t) (H + nL (sumN (fun k => SH m c 0 (sHr m (nI k) t) (b || sHm m (nI k) t)) k)) (R + nL (sumN (fun k => SR m c 0 (sHr m (nI k) t)) k))
    have ly : zf_X8_lay 1 μ' mi2 = some μ := lay_keep (f := mi) (d := 1) (by decide) (fun j hj => (s2.2.2.2.2.2.2.2.2 j hj).trans (hM.2.2.2.2.2.2.2.2 j hj).symm) (fun j hj => (n2 _ (by omega)).trans (hm j hj))
    obtain ⟨mi3, fl3, k1, k2⟩ := ch1_2_loop hc8 ec hM ht b H R r f (k + 1) mi2 fl2 (by omega) (by omega) (fun p hp => (n2 _ (by omega)).trans (hm p hp))
    refine ⟨mi3, fl3, ?_, fun p hp => (k2 p hp).trans (n2 p (by omega))⟩
    rw [← k1]
    show _ = zf_X8_chance_l1_49 f (nI 2) b (nI (k + 1)) μ mi2 fl2 (H + nL (sumN _ k + _)) (R + nL (sumN _ k + _))
    rw [← nL_acc, ← nL_acc]
    conv => lhs; unfold zf_X8_chance_l1_49
    unfold zf_X8_many zf_X8_chance_l1_81 zf_X8_chance_l1_86
    rw [hM.2.1, ec, Option.bind_some, if_neg (show ¬ nI c ≤ nI k from nle (by omega) (by omega)), s1, Option.bind_some]
    dsimp only
    have fin : (if b = true then Option.bind (zf_X8_chance_l2 (nI 2) true μ' mi (sFl m (nI k) t) (H + nL (sumN (fun k => SH m c 0 (sHr m (nI k) t) (b || sHm m (nI k) t)) k)) (R + nL (sumN (fun k => SR m c 0 (sHr m (nI k) t)) k))) (fun u9 => Option.bind (zf_X8_lay 1 u9.1 u9.2.1) (fun u10 => zf_X8_chance_l1_49 f (nI 2) b (nI k + 1) u10 u9.2.1 u9.2.2.1 u9.2.2.2.1 u9.2.2.2.2)) else if bI (sHm m (nI k) t) = 1 then Option.bind (zf_X8_chance_l2 (nI 2) true μ' mi (sFl m (nI k) t) (H + nL (sumN (fun k => SH m c 0 (sHr m (nI k) t) (b || sHm m (nI k) t)) k)) (R + nL (sumN (fun k => SR m c 0 (sHr m (nI k) t)) k))) (fun u9 => Option.bind (zf_X8_lay 1 u9.1 u9.2.1) (fun u10 => zf_X8_chance_l1_49 f (nI 2) b (nI k + 1) u10 u9.2.1 u9.2.2.1 u9.2.2.2.1 u9.2.2.2.2)) else Option.bind (zf_X8_chance_l2 (nI 2) false μ' mi (sFl m (nI k) t) (H + nL (sumN (fun k => SH m c 0 (sHr m (nI k) t) (b || sHm m (nI k) t)) k)) (R + nL (sumN (fun k => SR m c 0 (sHr m (nI k) t)) k))) (fun u9 => Option.bind (zf_X8_lay 1 u9.1 u9.2.1) (fun u10 => zf_X8_chance_l1_49 f (nI 2) b (nI k + 1) u10 u9.2.1 u9.2.2.1 u9.2.2.2.1 u9.2.2.2.2))) = Option.bind (zf_X8_chance_l2 (nI 2) (b || sHm m (nI k) t) μ' mi (sFl m (nI k) t) (H + nL (sumN (fun k => SH m c 0 (sHr m (nI k) t) (b || sHm m (nI k) t)) k)) (R + nL (sumN (fun k => SR m c 0 (sHr m (nI k) t)) k))) (fun u9 => Option.bind (zf_X8_lay 1 u9.1 u9.2.1) (fun u10 => zf_X8_chance_l1_49 f (nI 2) b (nI k + 1) u10 u9.2.1 u9.2.2.1 u9.2.2.2.1 u9.2.2.2.2)) := by
      cases b
      · rw [if_neg Bool.false_ne_true, Bool.false_or]
        cases sHm m (nI k) t
        · rw [if_neg (show ¬ bI false = 1 by decide)]
        · rw [if_pos (show bI true = 1 by decide)]
      · rw [if_pos rfl, Bool.true_or]
    rw [fin, n1, Option.bind_some]
    dsimp only
    rw [ly, Option.bind_some, nI_1]
theorem ch1_2 {t : T5} {μ : Nat → Int32} (c : Nat) (hc8 : c ≤ 8) (ec : m 32 = nI c) (hM : MSt m t μ) (ht : TR t) (b : Bool) (mi : Nat → Int32) (fl : Bool) (H R : Int64) : ∃ mi' fl', zf_X8_chance_l1 (nI 2) b μ mi fl H R = some (μ, mi', fl', H + nL (SH m c 1 t b), R + nL (SR m c 1 t)) ∧ ∀ p, p < 39 * 1 → mi' p = mi p := by
  obtain ⟨mi', fl', k1, k2⟩ := ch1_2_loop hc8 ec hM ht b H R c FU 0 (kp 1 μ mi) fl (by omega) (by show c < 2000; omega) (fun p hp => kp_at 1 μ mi p hp)
  refine ⟨mi', fl', ?_, fun p hp => (k2 p hp).trans (by unfold kp; rw [if_neg (by omega)])⟩
  rw [SH_s, SR_s, ← k1]
  unfold zf_X8_chance_l1
  have hk : zf_X8_keep 1 μ mi = some (kp 1 μ mi) := keepk μ mi (d := 1) (by decide)
  rw [if_neg (by decide), hk, Option.bind_some]
  show zf_X8_chance_l1_49 FU (nI 2) b 0 μ (kp 1 μ mi) fl H R = zf_X8_chance_l1_49 FU (nI 2) b 0 μ (kp 1 μ mi) fl (H + 0) (R + 0)
  rw [Int64.add_zero, Int64.add_zero]
theorem ch1_3_loop {t : T5} {μ : Nat → Int32} {c : Nat} (hc8 : c ≤ 8) (ec : m 32 = nI c) (hM : MSt m t μ) (ht : TR t) (b : Bool) (H R : Int64) : ∀ (r f k : Nat) (mi : Nat → Int32) (fl : Bool), k + r = c → r < f → (∀ p, p < 39 → mi (39 * 1 + p) = μ p) → ∃ mi' fl', zf_X8_chance_l1_49 f (nI 3) b (nI k) μ mi fl (H + nL (sumN (fun k => SH m c 1 (sHr m (nI k) t) (b || sHm m (nI k) t)) k)) (R + nL (sumN (fun k => SR m c 1 (sHr m (nI k) t)) k)) = some (μ, mi', fl', H + nL (sumN (fun k => SH m c 1 (sHr m (nI k) t) (b || sHm m (nI k) t)) c), R + nL (sumN (fun k => SR m c 1 (sHr m (nI k) t)) c)) ∧ ∀ p, p < 39 * 1 → mi' p = mi p
  | _, 0, _, _, _, _, h, _ => absurd h (Nat.not_lt_zero _)
  | 0, f + 1, k, mi, fl, h0, _, hm => by
    have e : k = c := by omega
    subst e
    unfold zf_X8_chance_l1_49 zf_X8_many
    rw [hM.2.1, ec, Option.bind_some, if_pos (i_le.mpr (Int.le_refl _))]
    exact ⟨_, _, rfl, fun _ _ => rfl⟩
  | r + 1, f + 1, k, mi, fl, h0, hf, hm => by
    have hk : nI k < m 32 := by rw [ec]; exact (nIlt (by omega) (by omega)).mpr (by omega)
    obtain ⟨μ', s1, s2, -⟩ := step8 hM ht (o := nI k) (Or.inr (Or.inr ⟨k, by omega, hk, rfl⟩)) fl
    obtain ⟨mi2, fl2, n1, n2⟩ := ch2_3 c hc8 ec s2 (TR_hr ht) (b || sHm m (nI k) t) mi (sFl m (nI k) t) (H + nL (sumN (fun k => SH m c 1 (sHr m (nI k) t) (b || sHm m (nI k) t)) k)) (R + nL (sumN (fun k => SR m c 1 (sHr m (nI k) t)) k))
    have ly : zf_X8_lay 1 μ' mi2 = some μ := lay_keep (f := mi) (d := 1) (by decide) (fun j hj => (s2.2.2.2.2.2.2.2.2 j hj).trans (hM.2.2.2.2.2.2.2.2 j hj).symm) (fun j hj => (n2 _ (by omega)).trans (hm j hj))
    obtain ⟨mi3, fl3, k1, k2⟩ := ch1_3_loop hc8 ec hM ht b H R r f (k + 1) mi2 fl2 (by omega) (by omega) (fun p hp => (n2 _ (by omega)).trans (hm p hp))
    refine ⟨mi3, fl3, ?_, fun p hp => (k2 p hp).trans (n2 p (by omega))⟩
    rw [← k1]
    show _ = zf_X8_chance_l1_49 f (nI 3) b (nI (k + 1)) μ mi2 fl2 (H + nL (sumN _ k + _)) (R + nL (sumN _ k + _))
    rw [← nL_acc, ← nL_acc]
    conv => lhs; unfold zf_X8_chance_l1_49
    unfold zf_X8_many zf_X8_chance_l1_81 zf_X8_chance_l1_86
    rw [hM.2.1, ec, Option.bind_some, if_neg (show ¬ nI c ≤ nI k from nle (by omega) (by omega)), s1, Option.bind_some]
    dsimp only
    have fin : (if b = true then Option.bind (zf_X8_chance_l2 (nI 3) true μ' mi (sFl m (nI k) t) (H + nL (sumN (fun k => SH m c 1 (sHr m (nI k) t) (b || sHm m (nI k) t)) k)) (R + nL (sumN (fun k => SR m c 1 (sHr m (nI k) t)) k))) (fun u9 => Option.bind (zf_X8_lay 1 u9.1 u9.2.1) (fun u10 => zf_X8_chance_l1_49 f (nI 3) b (nI k + 1) u10 u9.2.1 u9.2.2.1 u9.2.2.2.1 u9.2.2.2.2)) else if bI (sHm m (nI k) t) = 1 then Option.bind (zf_X8_chance_l2 (nI 3) true μ' mi (sFl m (nI k) t) (H + nL (sumN (fun k => SH m c 1 (sHr m (nI k) t) (b || sHm m (nI k) t)) k)) (R + nL (sumN (fun k => SR m c 1 (sHr m (nI k) t)) k))) (fun u9 => Option.bind (zf_X8_lay 1 u9.1 u9.2.1) (fun u10 => zf_X8_chance_l1_49 f (nI 3) b (nI k + 1) u10 u9.2.1 u9.2.2.1 u9.2.2.2.1 u9.2.2.2.2)) else Option.bind (zf_X8_chance_l2 (nI 3) false μ' mi (sFl m (nI k) t) (H + nL (sumN (fun k => SH m c 1 (sHr m (nI k) t) (b || sHm m (nI k) t)) k)) (R + nL (sumN (fun k => SR m c 1 (sHr m (nI k) t)) k))) (fun u9 => Option.bind (zf_X8_lay 1 u9.1 u9.2.1) (fun u10 => zf_X8_chance_l1_49 f (nI 3) b (nI k + 1) u10 u9.2.1 u9.2.2.1 u9.2.2.2.1 u9.2.2.2.2))) = Option.bind (zf_X8_chance_l2 (nI 3) (b || sHm m (nI k) t) μ' mi (sFl m (nI k) t) (H + nL (sumN (fun k => SH m c 1 (sHr m (nI k) t) (b || sHm m (nI k) t)) k)) (R + nL (sumN (fun k => SR m c 1 (sHr m (nI k) t)) k))) (fun u9 => Option.bind (zf_X8_lay 1 u9.1 u9.2.1) (fun u10 => zf_X8_chance_l1_49 f (nI 3) b (nI k + 1) u10 u9.2.1 u9.2.2.1 u9.2.2.2.1 u9.2.2.2.2)) := by
      cases b
      · rw [if_neg Bool.false_ne_true, Bool.false_or]
        cases sHm m (nI k) t
        · rw [if_neg (show ¬ bI false = 1 by decide)]
        · rw [if_pos (show bI true = 1 by decide)]
      · rw [if_pos rfl, Bool.true_or]
    rw [fin, n1, Option.bind_some]
    dsimp only
    rw [ly, Option.bind_some, nI_1]
theorem ch1_3 {t : T5} {μ : Nat → Int32} (c : Nat) (hc8 : c ≤ 8) (ec : m 32 = nI c) (hM : MSt m t μ) (ht : TR t) (b : Bool) (mi : Nat → Int32) (fl : Bool) (H R : Int64) : ∃ mi' fl', zf_X8_chance_l1 (nI 3) b μ mi fl H R = some (μ, mi', fl', H + nL (SH m c 2 t b), R + nL (SR m c 2 t)) ∧ ∀ p, p < 39 * 1 → mi' p = mi p := by
  obtain ⟨mi', fl', k1, k2⟩ := ch1_3_loop hc8 ec hM ht b H R c FU 0 (kp 1 μ mi) fl (by omega) (by show c < 2000; omega) (fun p hp => kp_at 1 μ mi p hp)
  refine ⟨mi', fl', ?_, fun p hp => (k2 p hp).trans (by unfold kp; rw [if_neg (by omega)])⟩
  rw [SH_s, SR_s, ← k1]
  unfold zf_X8_chance_l1
  have hk : zf_X8_keep 1 μ mi = some (kp 1 μ mi) := keepk μ mi (d := 1) (by decide)
  rw [if_neg (by decide), hk, Option.bind_some]
  show zf_X8_chance_l1_49 FU (nI 3) b 0 μ (kp 1 μ mi) fl H R = zf_X8_chance_l1_49 FU (nI 3) b 0 μ (kp 1 μ mi) fl (H + 0) (R + 0)
  rw [Int64.add_zero, Int64.add_zero]
theorem ch0_0 {t : T5} {μ : Nat → Int32} (c : Nat) (hM : MSt m t μ) (ht : TR t) (b : Bool) (mi : Nat → Int32) (fl : Bool) (H R : Int64) : ∃ mi' fl', zf_X8_chance_l0 (nI 0) b μ mi fl H R = some (μ, mi', fl', H + nL (SH m c 0 t b), R + nL (SR m c 0 t)) ∧ ∀ p, p < 39 * 0 → mi' p = mi p := by
  unfold zf_X8_chance_l0
  rw [if_pos (by decide)]
  unfold zf_X8_chance_l0_19
  rw [hM.2.2.1, rg_L ht, SH_0, SR_0]
  cases b
  · exact ⟨_, _, rfl, fun _ _ => rfl⟩
  · exact ⟨_, _, rfl, fun _ _ => rfl⟩
theorem ch0_1_loop {t : T5} {μ : Nat → Int32} {c : Nat} (hc8 : c ≤ 8) (ec : m 32 = nI c) (hM : MSt m t μ) (ht : TR t) (b : Bool) (H R : Int64) : ∀ (r f k : Nat) (mi : Nat → Int32) (fl : Bool), k + r = c → r < f → (∀ p, p < 39 → mi (39 * 0 + p) = μ p) → ∃ mi' fl', zf_X8_chance_l0_49 f (nI 1) b (nI k) μ mi fl (H + nL (sumN (fun k => SH m c 0 (sHr m (nI k) t) (b || sHm m (nI k) t)) k)) (R + nL (sumN (fun k => SR m c 0 (sHr m (nI k) t)) k)) = some (μ, mi', fl', H + nL (sumN (fun k => SH m c 0 (sHr m (nI k) t) (b || sHm m (nI k) t)) c), R + nL (sumN (fun k => SR m c 0 (sHr m (nI k) t)) c)) ∧ ∀ p, p < 39 * 0 → mi' p = mi p
  | _, 0, _, _, _, _, h, _ => absurd h (Nat.not_lt_zero _)
  | 0, f + 1, k, mi, fl, h0, _, hm => by
    have e : k = c := by omega
    subst e
    unfold zf_X8_chance_l0_49 zf_X8_many
    rw [hM.2.1, ec, Option.bind_some, if_pos (i_le.mpr (Int.le_refl _))]
    exact ⟨_, _, rfl, fun _ _ => rfl⟩
  | r + 1, f + 1, k, mi, fl, h0, hf, hm => by
    have hk : nI k < m 32 := by rw [ec]; exact (nIlt (by omega) (by omega)).mpr (by omega)
    obtain ⟨μ', s1, s2, -⟩ := step8 hM ht (o := nI k) (Or.inr (Or.inr ⟨k, by omega, hk, rfl⟩)) fl
    obtain ⟨mi2, fl2, n1, n2⟩ := ch1_1 c s2 (TR_hr ht) (b || sHm m (nI k) t) mi (sFl m (nI k) t) (H + nL (sumN (fun k => SH m c 0 (sHr m (nI k) t) (b || sHm m (nI k) t)) k)) (R + nL (sumN (fun k => SR m c 0 (sHr m (nI k) t)) k))
    have ly : zf_X8_lay 0 μ' mi2 = some μ := lay_keep (f := mi) (d := 0) (by decide) (fun j hj => (s2.2.2.2.2.2.2.2.2 j hj).trans (hM.2.2.2.2.2.2.2.2 j hj).symm) (fun j hj => (n2 _ (by omega)).trans (hm j hj))
    obtain ⟨mi3, fl3, k1, k2⟩ := ch0_1_loop hc8 ec hM ht b H R r f (k + 1) mi2 fl2 (by omega) (by omega) (fun p hp => (n2 _ (by omega)).trans (hm p hp))
    refine ⟨mi3, fl3, ?_, fun p hp => (k2 p hp).trans (n2 p (by omega))⟩
    rw [← k1]
    show _ = zf_X8_chance_l0_49 f (nI 1) b (nI (k + 1)) μ mi2 fl2 (H + nL (sumN _ k + _)) (R + nL (sumN _ k + _))
    rw [← nL_acc, ← nL_acc]
    conv => lhs; unfold zf_X8_chance_l0_49
    unfold zf_X8_many zf_X8_chance_l0_81 zf_X8_chance_l0_86
    rw [hM.2.1, ec, Option.bind_some, if_neg (show ¬ nI c ≤ nI k from nle (by omega) (by omega)), s1, Option.bind_some]
    dsimp only
    have fin : (if b = true then Option.bind (zf_X8_chance_l1 (nI 1) true μ' mi (sFl m (nI k) t) (H + nL (sumN (fun k => SH m c 0 (sHr m (nI k) t) (b || sHm m (nI k) t)) k)) (R + nL (sumN (fun k => SR m c 0 (sHr m (nI k) t)) k))) (fun u9 => Option.bind (zf_X8_lay 0 u9.1 u9.2.1) (fun u10 => zf_X8_chance_l0_49 f (nI 1) b (nI k + 1) u10 u9.2.1 u9.2.2.1 u9.2.2.2.1 u9.2.2.2.2)) else if bI (sHm m (nI k) t) = 1 then Option.bind (zf_X8_chance_l1 (nI 1) true μ' mi (sFl m (nI k) t) (H + nL (sumN (fun k => SH m c 0 (sHr m (nI k) t) (b || sHm m (nI k) t)) k)) (R + nL (sumN (fun k => SR m c 0 (sHr m (nI k) t)) k))) (fun u9 => Option.bind (zf_X8_lay 0 u9.1 u9.2.1) (fun u10 => zf_X8_chance_l0_49 f (nI 1) b (nI k + 1) u10 u9.2.1 u9.2.2.1 u9.2.2.2.1 u9.2.2.2.2)) else Option.bind (zf_X8_chance_l1 (nI 1) false μ' mi (sFl m (nI k) t) (H + nL (sumN (fun k => SH m c 0 (sHr m (nI k) t) (b || sHm m (nI k) t)) k)) (R + nL (sumN (fun k => SR m c 0 (sHr m (nI k) t)) k))) (fun u9 => Option.bind (zf_X8_lay 0 u9.1 u9.2.1) (fun u10 => zf_X8_chance_l0_49 f (nI 1) b (nI k + 1) u10 u9.2.1 u9.2.2.1 u9.2.2.2.1 u9.2.2.2.2))) = Option.bind (zf_X8_chance_l1 (nI 1) (b || sHm m (nI k) t) μ' mi (sFl m (nI k) t) (H + nL (sumN (fun k => SH m c 0 (sHr m (nI k) t) (b || sHm m (nI k) t)) k)) (R + nL (sumN (fun k => SR m c 0 (sHr m (nI k) t)) k))) (fun u9 => Option.bind (zf_X8_lay 0 u9.1 u9.2.1) (fun u10 => zf_X8_chance_l0_49 f (nI 1) b (nI k + 1) u10 u9.2.1 u9.2.2.1 u9.2.2.2.1 u9.2.2.2.2)) := by
      cases b
      · rw [if_neg Bool.false_ne_true, Bool.false_or]
        cases sHm m (nI k) t
        · rw [if_neg (show ¬ bI false = 1 by decide)]
        · rw [if_pos (show bI true = 1 by decide)]
      · rw [if_pos rfl, Bool.true_or]
    rw [fin, n1, Option.bind_some]
    dsimp only
    rw [ly, Option.bind_some, nI_1]
theorem ch0_1 {t : T5} {μ : Nat → Int32} (c : Nat) (hc8 : c ≤ 8) (ec : m 32 = nI c) (hM : MSt m t μ) (ht : TR t) (b : Bool) (mi : Nat → Int32) (fl : Bool) (H R : Int64) : ∃ mi' fl', zf_X8_chance_l0 (nI 1) b μ mi fl H R = some (μ, mi', fl', H + nL (SH m c 1 t b), R + nL (SR m c 1 t)) ∧ ∀ p, p < 39 * 0 → mi' p = mi p := by
  obtain ⟨mi', fl', k1, k2⟩ := ch0_1_loop hc8 ec hM ht b H R c FU 0 (kp 0 μ mi) fl (by omega) (by show c < 2000; omega) (fun p hp => kp_at 0 μ mi p hp)
  refine ⟨mi', fl', ?_, fun p hp => (k2 p hp).trans (by unfold kp; rw [if_neg (by omega)])⟩
  rw [SH_s, SR_s, ← k1]
  unfold zf_X8_chance_l0
  have hk : zf_X8_keep 0 μ mi = some (kp 0 μ mi) := keepk μ mi (d := 0) (by decide)
  rw [if_neg (by decide), hk, Option.bind_some]
  show zf_X8_chance_l0_49 FU (nI 1) b 0 μ (kp 0 μ mi) fl H R = zf_X8_chance_l0_49 FU (nI 1) b 0 μ (kp 0 μ mi) fl (H + 0) (R + 0)
  rw [Int64.add_zero, Int64.add_zero]
theorem ch0_2_loop {t : T5} {μ : Nat → Int32} {c : Nat} (hc8 : c ≤ 8) (ec : m 32 = nI c) (hM : MSt m t μ) (ht : TR t) (b : Bool) (H R : Int64) : ∀ (r f k : Nat) (mi : Nat → Int32) (fl : Bool), k + r = c → r < f → (∀ p, p < 39 → mi (39 * 0 + p) = μ p) → ∃ mi' fl', zf_X8_chance_l0_49 f (nI 2) b (nI k) μ mi fl (H + nL (sumN (fun k => SH m c 1 (sHr m (nI k) t) (b || sHm m (nI k) t)) k)) (R + nL (sumN (fun k => SR m c 1 (sHr m (nI k) t)) k)) = some (μ, mi', fl', H + nL (sumN (fun k => SH m c 1 (sHr m (nI k) t) (b || sHm m (nI k) t)) c), R + nL (sumN (fun k => SR m c 1 (sHr m (nI k) t)) c)) ∧ ∀ p, p < 39 * 0 → mi' p = mi p
  | _, 0, _, _, _, _, h, _ => absurd h (Nat.not_lt_zero _)
  | 0, f + 1, k, mi, fl, h0, _, hm => by
    have e : k = c := by omega
    subst e
    unfold zf_X8_chance_l0_49 zf_X8_many
    rw [hM.2.1, ec, Option.bind_some, if_pos (i_le.mpr (Int.le_refl _))]
    exact ⟨_, _, rfl, fun _ _ => rfl⟩
  | r + 1, f + 1, k, mi, fl, h0, hf, hm => by
    have hk : nI k < m 32 := by rw [ec]; exact (nIlt (by omega) (by omega)).mpr (by omega)
    obtain ⟨μ', s1, s2, -⟩ := step8 hM ht (o := nI k) (Or.inr (Or.inr ⟨k, by omega, hk, rfl⟩)) fl
    obtain ⟨mi2, fl2, n1, n2⟩ := ch1_2 c hc8 ec s2 (TR_hr ht) (b || sHm m (nI k) t) mi (sFl m (nI k) t) (H + nL (sumN (fun k => SH m c 1 (sHr m (nI k) t) (b || sHm m (nI k) t)) k)) (R + nL (sumN (fun k => SR m c 1 (sHr m (nI k) t)) k))
    have ly : zf_X8_lay 0 μ' mi2 = some μ := lay_keep (f := mi) (d := 0) (by decide) (fun j hj => (s2.2.2.2.2.2.2.2.2 j hj).trans (hM.2.2.2.2.2.2.2.2 j hj).symm) (fun j hj => (n2 _ (by omega)).trans (hm j hj))
    obtain ⟨mi3, fl3, k1, k2⟩ := ch0_2_loop hc8 ec hM ht b H R r f (k + 1) mi2 fl2 (by omega) (by omega) (fun p hp => (n2 _ (by omega)).trans (hm p hp))
    refine ⟨mi3, fl3, ?_, fun p hp => (k2 p hp).trans (n2 p (by omega))⟩
    rw [← k1]
    show _ = zf_X8_chance_l0_49 f (nI 2) b (nI (k + 1)) μ mi2 fl2 (H + nL (sumN _ k + _)) (R + nL (sumN _ k + _))
    rw [← nL_acc, ← nL_acc]
    conv => lhs; unfold zf_X8_chance_l0_49
    unfold zf_X8_many zf_X8_chance_l0_81 zf_X8_chance_l0_86
    rw [hM.2.1, ec, Option.bind_some, if_neg (show ¬ nI c ≤ nI k from nle (by omega) (by omega)), s1, Option.bind_some]
    dsimp only
    have fin : (if b = true then Option.bind (zf_X8_chance_l1 (nI 2) true μ' mi (sFl m (nI k) t) (H + nL (sumN (fun k => SH m c 1 (sHr m (nI k) t) (b || sHm m (nI k) t)) k)) (R + nL (sumN (fun k => SR m c 1 (sHr m (nI k) t)) k))) (fun u9 => Option.bind (zf_X8_lay 0 u9.1 u9.2.1) (fun u10 => zf_X8_chance_l0_49 f (nI 2) b (nI k + 1) u10 u9.2.1 u9.2.2.1 u9.2.2.2.1 u9.2.2.2.2)) else if bI (sHm m (nI k) t) = 1 then Option.bind (zf_X8_chance_l1 (nI 2) true μ' mi (sFl m (nI k) t) (H + nL (sumN (fun k => SH m c 1 (sHr m (nI k) t) (b || sHm m (nI k) t)) k)) (R + nL (sumN (fun k => SR m c 1 (sHr m (nI k) t)) k))) (fun u9 => Option.bind (zf_X8_lay 0 u9.1 u9.2.1) (fun u10 => zf_X8_chance_l0_49 f (nI 2) b (nI k + 1) u10 u9.2.1 u9.2.2.1 u9.2.2.2.1 u9.2.2.2.2)) else Option.bind (zf_X8_chance_l1 (nI 2) false μ' mi (sFl m (nI k) t) (H + nL (sumN (fun k => SH m c 1 (sHr m (nI k) t) (b || sHm m (nI k) t)) k)) (R + nL (sumN (fun k => SR m c 1 (sHr m (nI k) t)) k))) (fun u9 => Option.bind (zf_X8_lay 0 u9.1 u9.2.1) (fun u10 => zf_X8_chance_l0_49 f (nI 2) b (nI k + 1) u10 u9.2.1 u9.2.2.1 u9.2.2.2.1 u9.2.2.2.2))) = Option.bind (zf_X8_chance_l1 (nI 2) (b || sHm m (nI k) t) μ' mi (sFl m (nI k) t) (H + nL (sumN (fun k => SH m c 1 (sHr m (nI k) t) (b || sHm m (nI k) t)) k)) (R + nL (sumN (fun k => SR m c 1 (sHr m (nI k) t)) k))) (fun u9 => Option.bind (zf_X8_lay 0 u9.1 u9.2.1) (fun u10 => zf_X8_chance_l0_49 f (nI 2) b (nI k + 1) u10 u9.2.1 u9.2.2.1 u9.2.2.2.1 u9.2.2.2.2)) := by
      cases b
      · rw [if_neg Bool.false_ne_true, Bool.false_or]
        cases sHm m (nI k) t
        · rw [if_neg (show ¬ bI false = 1 by decide)]
        · rw [if_pos (show bI true = 1 by decide)]
      · rw [if_pos rfl, Bool.true_or]
    rw [fin, n1, Option.bind_some]
    dsimp only
    rw [ly, Option.bind_some, nI_1]
theorem ch0_2 {t : T5} {μ : Nat → Int32} (c : Nat) (hc8 : c ≤ 8) (ec : m 32 = nI c) (hM : MSt m t μ) (ht : TR t) (b : Bool) (mi : Nat → Int32) (fl : Bool) (H R : Int64) : ∃ mi' fl', zf_X8_chance_l0 (nI 2) b μ mi fl H R = some (μ, mi', fl', H + nL (SH m c 2 t b), R + nL (SR m c 2 t)) ∧ ∀ p, p < 39 * 0 → mi' p = mi p := by
  obtain ⟨mi', fl', k1, k2⟩ := ch0_2_loop hc8 ec hM ht b H R c FU 0 (kp 0 μ mi) fl (by omega) (by show c < 2000; omega) (fun p hp => kp_at 0 μ mi p hp)
  refine ⟨mi', fl', ?_, fun p hp => (k2 p hp).trans (by unfold kp; rw [if_neg (by omega)])⟩
  rw [SH_s, SR_s, ← k1]
  unfold zf_X8_chance_l0
  have hk : zf_X8_keep 0 μ mi = some (kp 0 μ mi) := keepk μ mi (d := 0) (by decide)
  rw [if_neg (by decide), hk, Option.bind_some]
  show zf_X8_chance_l0_49 FU (nI 2) b 0 μ (kp 0 μ mi) fl H R = zf_X8_chance_l0_49 FU (nI 2) b 0 μ (kp 0 μ mi) fl (H + 0) (R + 0)
  rw [Int64.add_zero, Int64.add_zero]
theorem ch0_3_loop {t : T5} {μ : Nat → Int32} {c : Nat} (hc8 : c ≤ 8) (ec : m 32 = nI c) (hM : MSt m t μ) (ht : TR t) (b : Bool) (H R : Int64) : ∀ (r f k : Nat) (mi : Nat → Int32) (fl : Bool), k + r = c → r < f → (∀ p, p < 39 → mi (39 * 0 + p) = μ p) → ∃ mi' fl', zf_X8_chance_l0_49 f (nI 3) b (nI k) μ mi fl (H + nL (sumN (fun k => SH m c 2 (sHr m (nI k) t) (b || sHm m (nI k) t)) k)) (R + nL (sumN (fun k => SR m c 2 (sHr m (nI k) t)) k)) = some (μ, mi', fl', H + nL (sumN (fun k => SH m c 2 (sHr m (nI k) t) (b || sHm m (nI k) t)) c), R + nL (sumN (fun k => SR m c 2 (sHr m (nI k) t)) c)) ∧ ∀ p, p < 39 * 0 → mi' p = mi p
  | _, 0, _, _, _, _, h, _ => absurd h (Nat.not_lt_zero _)
  | 0, f + 1, k, mi, fl, h0, _, hm => by
    have e : k = c := by omega
    subst e
    unfold zf_X8_chance_l0_49 zf_X8_many
    rw [hM.2.1, ec, Option.bind_some, if_pos (i_le.mpr (Int.le_refl _))]
    exact ⟨_, _, rfl, fun _ _ => rfl⟩
  | r + 1, f + 1, k, mi, fl, h0, hf, hm => by
    have hk : nI k < m 32 := by rw [ec]; exact (nIlt (by omega) (by omega)).mpr (by omega)
    obtain ⟨μ', s1, s2, -⟩ := step8 hM ht (o := nI k) (Or.inr (Or.inr ⟨k, by omega, hk, rfl⟩)) fl
    obtain ⟨mi2, fl2, n1, n2⟩ := ch1_3 c hc8 ec s2 (TR_hr ht) (b || sHm m (nI k) t) mi (sFl m (nI k) t) (H + nL (sumN (fun k => SH m c 2 (sHr m (nI k) t) (b || sHm m (nI k) t)) k)) (R + nL (sumN (fun k => SR m c 2 (sHr m (nI k) t)) k))
    have ly : zf_X8_lay 0 μ' mi2 = some μ := lay_keep (f := mi) (d := 0) (by decide) (fun j hj => (s2.2.2.2.2.2.2.2.2 j hj).trans (hM.2.2.2.2.2.2.2.2 j hj).symm) (fun j hj => (n2 _ (by omega)).trans (hm j hj))
    obtain ⟨mi3, fl3, k1, k2⟩ := ch0_3_loop hc8 ec hM ht b H R r f (k + 1) mi2 fl2 (by omega) (by omega) (fun p hp => (n2 _ (by omega)).trans (hm p hp))
    refine ⟨mi3, fl3, ?_, fun p hp => (k2 p hp).trans (n2 p (by omega))⟩
    rw [← k1]
    show _ = zf_X8_chance_l0_49 f (nI 3) b (nI (k + 1)) μ mi2 fl2 (H + nL (sumN _ k + _)) (R + nL (sumN _ k + _))
    rw [← nL_acc, ← nL_acc]
    conv => lhs; unfold zf_X8_chance_l0_49
    unfold zf_X8_many zf_X8_chance_l0_81 zf_X8_chance_l0_86
    rw [hM.2.1, ec, Option.bind_some, if_neg (show ¬ nI c ≤ nI k from nle (by omega) (by omega)), s1, Option.bind_some]
    dsimp only
    have fin : (if b = true then Option.bind (zf_X8_chance_l1 (nI 3) true μ' mi (sFl m (nI k) t) (H + nL (sumN (fun k => SH m c 2 (sHr m (nI k) t) (b || sHm m (nI k) t)) k)) (R + nL (sumN (fun k => SR m c 2 (sHr m (nI k) t)) k))) (fun u9 => Option.bind (zf_X8_lay 0 u9.1 u9.2.1) (fun u10 => zf_X8_chance_l0_49 f (nI 3) b (nI k + 1) u10 u9.2.1 u9.2.2.1 u9.2.2.2.1 u9.2.2.2.2)) else if bI (sHm m (nI k) t) = 1 then Option.bind (zf_X8_chance_l1 (nI 3) true μ' mi (sFl m (nI k) t) (H + nL (sumN (fun k => SH m c 2 (sHr m (nI k) t) (b || sHm m (nI k) t)) k)) (R + nL (sumN (fun k => SR m c 2 (sHr m (nI k) t)) k))) (fun u9 => Option.bind (zf_X8_lay 0 u9.1 u9.2.1) (fun u10 => zf_X8_chance_l0_49 f (nI 3) b (nI k + 1) u10 u9.2.1 u9.2.2.1 u9.2.2.2.1 u9.2.2.2.2)) else Option.bind (zf_X8_chance_l1 (nI 3) false μ' mi (sFl m (nI k) t) (H + nL (sumN (fun k => SH m c 2 (sHr m (nI k) t) (b || sHm m (nI k) t)) k)) (R + nL (sumN (fun k => SR m c 2 (sHr m (nI k) t)) k))) (fun u9 => Option.bind (zf_X8_lay 0 u9.1 u9.2.1) (fun u10 => zf_X8_chance_l0_49 f (nI 3) b (nI k + 1) u10 u9.2.1 u9.2.2.1 u9.2.2.2.1 u9.2.2.2.2))) = Option.bind (zf_X8_chance_l1 (nI 3) (b || sHm m (nI k) t) μ' mi (sFl m (nI k) t) (H + nL (sumN (fun k => SH m c 2 (sHr m (nI k) t) (b || sHm m (nI k) t)) k)) (R + nL (sumN (fun k => SR m c 2 (sHr m (nI k) t)) k))) (fun u9 => Option.bind (zf_X8_lay 0 u9.1 u9.2.1) (fun u10 => zf_X8_chance_l0_49 f (nI 3) b (nI k + 1) u10 u9.2.1 u9.2.2.1 u9.2.2.2.1 u9.2.2.2.2)) := by
      cases b
      · rw [if_neg Bool.false_ne_true, Bool.false_or]
        cases sHm m (nI k) t
        · rw [if_neg (show ¬ bI false = 1 by decide)]
        · rw [if_pos (show bI true = 1 by decide)]
      · rw [if_pos rfl, Bool.true_or]
    rw [fin, n1, Option.bind_some]
    dsimp only
    rw [ly, Option.bind_some, nI_1]
theorem ch0_3 {t : T5} {μ : Nat → Int32} (c : Nat) (hc8 : c ≤ 8) (ec : m 32 = nI c) (hM : MSt m t μ) (ht : TR t) (b : Bool) (mi : Nat → Int32) (fl : Bool) (H R : Int64) : ∃ mi' fl', zf_X8_chance_l0 (nI 3) b μ mi fl H R = some (μ, mi', fl', H + nL (SH m c 3 t b), R + nL (SR m c 3 t)) ∧ ∀ p, p < 39 * 0 → mi' p = mi p := by
  obtain ⟨mi', fl', k1, k2⟩ := ch0_3_loop hc8 ec hM ht b H R c FU 0 (kp 0 μ mi) fl (by omega) (by show c < 2000; omega) (fun p hp => kp_at 0 μ mi p hp)
  refine ⟨mi', fl', ?_, fun p hp => (k2 p hp).trans (by unfold kp; rw [if_neg (by omega)])⟩
  rw [SH_s, SR_s, ← k1]
  unfold zf_X8_chance_l0
  have hk : zf_X8_keep 0 μ mi = some (kp 0 μ mi) := keepk μ mi (d := 0) (by decide)
  rw [if_neg (by decide), hk, Option.bind_some]
  show zf_X8_chance_l0_49 FU (nI 3) b 0 μ (kp 0 μ mi) fl H R = zf_X8_chance_l0_49 FU (nI 3) b 0 μ (kp 0 μ mi) fl (H + 0) (R + 0)
  rw [Int64.add_zero, Int64.add_zero]
