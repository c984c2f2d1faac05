/-! pure rows: odds, the component's side -/
variable {te : TTe} {st : TSt} {m : Nat → Int32} {rf rfd mi : Nat → Int32}
theorem vd_le (c v : Nat) : ∀ i, vd c v i ≤ v
  | 0 => Nat.le_refl _
  | i + 1 => Nat.le_trans (Nat.div_le_self _ _) (vd_le c v i)
theorem dgt_ORD {c : Nat} (h0 : 0 < c) (hc8 : c ≤ 8) (ec : m 32 = nI c) (v i : Nat) : ORD m (dgt c v i) := by
  have := Nat.mod_lt (vd c v i) h0
  exact Or.inr (Or.inr ⟨vd c v i % c, by omega, by rw [ec]; exact (nIlt (by omega) (by omega)).mpr this, rfl⟩)
theorem code_loop (hc : RC te st m) {c h v : Nat} (h0 : 0 < c) (hc8 : c ≤ 8) (ec : m 32 = nI c) (hh : h ≤ 3) (hv' : v < 1000) (wa : TWa) : ∀ (r f i : Nat) (pl : Nat → Int32), i + r = h → r < f → (∀ p, p < i → pl p = dgt c v p) → ∃ pl', zf_X7_walkCode_5 te st f (nI h) (nI (vd c v i)) (nI i) wa pl = zf_X7_walkCode_63 te st (nI h) wa pl' ∧ ∀ p, p < h → pl' p = dgt c v p
  | _, 0, _, _, _, h, _ => absurd h (Nat.not_lt_zero _)
  | 0, f + 1, i, pl, hi, _, hp => by
    have e : i = h := by omega
    subst e
    unfold zf_X7_walkCode_5
    rw [if_pos (i_le.mpr (Int.le_refl _))]
    exact ⟨pl, rfl, hp⟩
  | r + 1, f + 1, i, pl, hi, hf, hp => by
    have hq : ¬ nI h ≤ nI i := nle (by omega) (by omega)
    have hq2 : ¬ (48 : Int32) ≤ nI i := nle (a := 48) (by omega) (by decide)
    have hq3 : ¬ nI c ≤ 0 := nle (i := 0) h0 (by omega)
    have hq4 : ¬ nI c = 0 := fun y => by have := (nIeq (b := 0) (by omega) (by decide)).mp y; omega
    have hl := vd_le c v i
    unfold zf_X7_walkCode_5
    rw [if_neg hq, if_neg hq2, (RC_SM hc).1, ec, if_neg hq3, if_neg hq4, if_pos (ix_nI (by omega) (by decide)), if_neg hq4, pk_rem (by omega) h0 (by omega), pk_div (by omega) h0 (by omega), nI_1, cl_nI (by omega)]
    exact code_loop hc h0 hc8 ec hh hv' wa r f (i + 1) (upd pl i (nI (vd c v i % c))) (by omega) (by omega) (fun p hp' => by
      by_cases e : p = i
      · subst e; rw [upd_s]; rfl
      · rw [upd_n e]; exact hp p (by omega))
theorem code7 (hc : RC te st m) (hr : RNG m) {c h v : Nat} (h0 : 0 < c) (hc8 : c ≤ 8) (ec : m 32 = nI c) (hh : h ≤ 3) (hv' : v < 1000) (wa : TWa) (pl : Nat → Int32) : ∃ wa' pl', zf_X7_walkCode (nI v) (nI h) te st wa pl = some (wa', pl') ∧ wa'.1.1 = (wT m (dgt c v) (t5 m) h).1 ∧ wa'.2.1 = wH m (dgt c v) (t5 m) h := by
  obtain ⟨pl', k1, k2⟩ := code_loop hc h0 hc8 ec hh hv' wa h FU 0 pl (by omega) (by show h < 2000; omega) (fun p hp => absurd hp (Nat.not_lt_zero _))
  obtain ⟨b', f', e1⟩ := along7 hc hr wa pl' (dgt c v) (c := h) (by omega) (fun i hi => ⟨k2 i hi, dgt_ORD h0 hc8 ec v i⟩)
  have k1' : zf_X7_walkCode (nI v) (nI h) te st wa pl = _ := k1
  rw [k1']
  unfold zf_X7_walkCode_63
  rw [e1]
  exact ⟨_, _, rfl, rfl, rfl⟩
def fH (m : Nat → Int32) (c h : Nat) (t : T5) (b : Bool) : Nat → Nat := fun v => if (b || hv m (dgt c v) t h) = true then 1 else 0
def fR (m : Nat → Int32) (c h : Nat) (t : T5) : Nat → Nat := fun v => (wT m (dgt c v) t h).1.toInt.toNat
theorem fH_le (c h : Nat) (t : T5) (b : Bool) (n : Nat) : sumN (fH m c h t b) n ≤ n := by
  have := sumN_le (fH m c h t b) 1 n (fun i _ => by unfold fH; split <;> omega)
  omega
theorem harm_loop (hc : RC te st m) (hr : RNG m) {c h T : Nat} (h0 : 0 < c) (hc8 : c ≤ 8) (ec : m 32 = nI c) (hh : h ≤ 3) (hT0 : 0 < T) (hT : T ≤ 512) : ∀ (r f i : Nat) (wa : TWa) (pl : Nat → Int32), i + r = T → r < f → ∃ wa' pl', zf_X7_harmOdds_5 te st f (nI h) (nI T) (nI (sumN (fH m c h (t5 m) false) i)) (nI i) wa pl = some (nI (1000000 * sumN (fH m c h (t5 m) false) T / T), wa', pl')
  | _, 0, _, _, _, _, h => absurd h (Nat.not_lt_zero _)
  | 0, f + 1, i, wa, pl, hi, _ => by
    have e : i = T := by omega
    subst e
    have hs := fH_le (m := m) c h (t5 m) false i
    unfold zf_X7_harmOdds_5
    rw [if_pos (i_le.mpr (Int.le_refl _)), if_neg (show ¬ nI i ≤ 0 from nle (i := 0) hT0 (by omega)), if_neg (show ¬ nI i = 0 from fun y => by have := (nIeq (b := 0) (by omega) (by decide)).mp y; omega), show (1000000 : Int32) * nI (sumN (fH m c h (t5 m) false) i) = nI (1000000 * sumN (fH m c h (t5 m) false) i) from pk_mul 1000000 _, pk_div (by omega) hT0 (by omega)]
    exact ⟨_, _, rfl⟩
  | r + 1, f + 1, i, wa, pl, hi, hf => by
    obtain ⟨wa', pl', k1, k2, k3⟩ := code7 hc hr h0 hc8 ec hh (show i < 1000 by omega) wa pl
    obtain ⟨a, ha, ea, hva⟩ := hv_wH (m := m) (dgt c i) (t5 m) h (by omega)
    unfold zf_X7_harmOdds_5 zf_X7_harmOdds_31
    rw [if_neg (show ¬ nI T ≤ nI i from nle (by omega) (by omega)), k1, Option.bind_some, nI_1, nI_1]
    dsimp only
    have ih := harm_loop hc hr h0 hc8 ec hh hT0 hT r f (i + 1) wa' pl' (by omega) (by omega)
    have es : sumN (fH m c h (t5 m) false) (i + 1) = sumN (fH m c h (t5 m) false) i + fH m c h (t5 m) false i := rfl
    rw [es] at ih
    by_cases z : a = 0
    · have hf0 : fH m c h (t5 m) false i = 0 := by
        unfold fH
        rw [Bool.false_or, if_neg (fun y => (hva.mp y) z)]
      rw [hf0, Nat.add_zero] at ih
      rw [if_pos (show wa'.2.1 ≤ 0 from by rw [k3, ea, z]; decide)]
      exact ih
    · have hf1 : fH m c h (t5 m) false i = 1 := by
        unfold fH
        rw [Bool.false_or, if_pos (hva.mpr z)]
      rw [hf1] at ih
      rw [if_neg (show ¬ wa'.2.1 ≤ 0 from by rw [k3, ea]; exact nle (i := 0) (by omega) (by omega))]
      exact ih
theorem fR_le (ht : TR (t5 m)) (c h n : Nat) : sumN (fR m c h (t5 m)) n ≤ n * 99 := sumN_le _ 99 n (fun i _ => by
  have := (TR_w (m := m) (o := dgt c i) ht h).1
  unfold fR
  omega)
theorem mean_loop (hc : RC te st m) (hr : RNG m) {c h T : Nat} (h0 : 0 < c) (hc8 : c ≤ 8) (ec : m 32 = nI c) (hh : h ≤ 3) (hT0 : 0 < T) (hT : T ≤ 512) : ∀ (r f i : Nat) (wa : TWa) (pl : Nat → Int32), i + r = T → r < f → ∃ wa' pl', zf_X7_meanRage_5 te st f (nI h) (nI T) (nI (sumN (fR m c h (t5 m)) i)) (nI i) wa pl = some (nI (1000 * sumN (fR m c h (t5 m)) T / T), wa', pl')
  | _, 0, _, _, _, _, h => absurd h (Nat.not_lt_zero _)
  | 0, f + 1, i, wa, pl, hi, _ => by
    have e : i = T := by omega
    subst e
    have hs := fR_le (m := m) (RNG_TR hr) c h i
    unfold zf_X7_meanRage_5
    rw [if_pos (i_le.mpr (Int.le_refl _)), if_neg (show ¬ nI i ≤ 0 from nle (i := 0) hT0 (by omega)), if_neg (show ¬ nI i = 0 from fun y => by have := (nIeq (b := 0) (by omega) (by decide)).mp y; omega), show (1000 : Int32) * nI (sumN (fR m c h (t5 m)) i) = nI (1000 * sumN (fR m c h (t5 m)) i) from pk_mul 1000 _, pk_div (by omega) hT0 (by omega)]
    exact ⟨_, _, rfl⟩
  | r + 1, f + 1, i, wa, pl, hi, hf => by
    obtain ⟨wa', pl', k1, k2, k3⟩ := code7 hc hr h0 hc8 ec hh (show i < 1000 by omega) wa pl
    have hw := wT_1 hr (dgt c i) h
    have ew : wa'.1.1 = nI (fR m c h (t5 m) i) := by
      rw [k2]
      unfold fR
      exact i_eq.mpr (by rw [nI_t (by omega)]; omega)
    unfold zf_X7_meanRage_5
    rw [if_neg (show ¬ nI T ≤ nI i from nle (by omega) (by omega)), k1, Option.bind_some, nI_1]
    dsimp only
    rw [ew, nI_add]
    exact mean_loop hc hr h0 hc8 ec hh hT0 hT r f (i + 1) wa' pl' (by omega) (by omega)
