section M9
variable {m : Nat → Int32} {t : T5} {μ : Nat → Int32}
theorem step142 (hM : MSt m t μ) (ht : TR t) (f : Bool) : ∃ μ', zf_X8_step_142 μ f = some (bI (sHarm (sFlee t)), μ', f) ∧ MSt m (sEnd (sFlee t)) μ' ∧ ∀ k, k < 8 → μ' (4 * k + 3) = μ (4 * k + 3) := by
  have e1 := flee_eq ht
  have h1 := MS33 hM (if t.1 + 2 * t.2.2.1 < 99 then t.1 + 2 * t.2.2.1 else 99)
  have h2 := MS35 h1 (sGrow t.2.2.1 (decide (t.2.2.2.2 - t.2.2.2.2 / 12 * 12 = 0)))
  have h2 : MSt m (sFlee t) (upd (upd μ 33 (if t.1 + 2 * t.2.2.1 < 99 then t.1 + 2 * t.2.2.1 else 99)) 35 (sGrow t.2.2.1 (decide (t.2.2.2.2 - t.2.2.2.2 / 12 * 12 = 0)))) := h2
  obtain ⟨μ', g1, g2, g3⟩ := step177 h2 (TR_flee ht) f
  refine ⟨μ', ?_, g2, fun k hk => by rw [g3 k hk, upd_n (by omega), upd_n (by omega)]⟩
  unfold zf_X8_step_142
  rw [hM.2.2.1, hM.2.2.2.2.1, bound99, e1]
  simp only [Option.bind_some]
  rw [grow8 h1 ht.2.2.1.2 (by decide)]
  simp only [Option.bind_some]
  exact g1
theorem sFl_n : sFl m (-1) t = false := by unfold sFl; rw [if_neg (by decide), if_pos rfl]
theorem sFl_m : sFl m 10 t = false := by unfold sFl; rw [if_pos rfl]
theorem sHr_n : sMid m (-1) t = sFlee t := by unfold sMid; rw [if_neg (by decide), if_pos rfl]
theorem sHr_m : sMid m 10 t = sMeet t := by unfold sMid; rw [if_pos rfl]
theorem step8n (hM : MSt m t μ) (ht : TR t) (fl : Bool) : ∃ μ', zf_X8_step (-1) μ fl = some (bI (sHm m (-1) t), μ', sFl m (-1) t) ∧ MSt m (sHr m (-1) t) μ' ∧ ∀ k, k < 8 → μ' (4 * k + 3) = if sFl m (-1) t = true ∧ (-1) = nI k then μ (4 * k + 3) + 1 else μ (4 * k + 3) := by
  unfold sHr sHm
  rw [sFl_n, sHr_n]
  obtain ⟨μ', g1, g2, g3⟩ := step142 hM ht false
  refine ⟨μ', ?_, g2, fun k hk => by rw [g3 k hk, if_neg (fun q => by cases q.1)]⟩
  unfold zf_X8_step zf_X8_step_118
  rw [if_neg (by decide), if_pos rfl, if_pos rfl]
  exact g1
theorem step8m (hM : MSt m t μ) (ht : TR t) (fl : Bool) : ∃ μ', zf_X8_step 10 μ fl = some (bI (sHm m 10 t), μ', sFl m 10 t) ∧ MSt m (sHr m 10 t) μ' ∧ ∀ k, k < 8 → μ' (4 * k + 3) = if sFl m 10 t = true ∧ 10 = nI k then μ (4 * k + 3) + 1 else μ (4 * k + 3) := by
  unfold sHr sHm
  rw [sFl_m, sHr_m]
  have h2 : MSt m (sMeet t) _ := MS34 (MS33 hM (t.1 - (t.1 - t.2.1) / 4)) (t.2.1 + (t.1 - t.2.1) / 4)
  obtain ⟨μ', g1, g2, g3⟩ := step177 h2 (TR_meet ht) false
  refine ⟨μ', ?_, g2, fun k hk => by rw [g3 k hk, upd_n (by omega), upd_n (by omega), if_neg (fun q => by cases q.1)]⟩
  unfold zf_X8_step
  rw [if_pos rfl, hM.2.2.1, hM.2.2.2.1, upd_n (by omega), hM.2.2.2.1]
  exact g1
theorem step8k (hM : MSt m t μ) (ht : TR t) {k : Nat} (h8 : k < 8) (fl : Bool) : ∃ μ', zf_X8_step (nI k) μ fl = some (bI (sHm m (nI k) t), μ', sFl m (nI k) t) ∧ MSt m (sHr m (nI k) t) μ' ∧ ∀ q, q < 8 → μ' (4 * q + 3) = if sFl m (nI k) t = true ∧ nI k = nI q then μ (4 * q + 3) + 1 else μ (4 * q + 3) := by
  have n10 := k_ne10 h8
  have n1 := k_nem1 h8
  have hc : (nI k).toNatClampNeg = k := cl_nI (by omega)
  have eM : sMid m (nI k) t = if sStay m k t then sKept m k t else sFlee t := by unfold sMid; rw [if_neg n10, if_neg n1, hc]
  have eF : sFl m (nI k) t = !sStay m k t := by unfold sFl; rw [if_neg n10, if_neg n1, hc]
  unfold zf_X8_step sHr sHm
  rw [if_neg n10, if_neg n1, eM, eF, staying8 hM h8, soothes8 hM h8, hM.2.2.1]
  cases hst : sStay m k t with
  | true =>
    simp only [Option.bind_some, if_true, bound99]
    have h1 := MS33 hM (c99 (t.1 - sSooth (m (4 * k)) (m (4 * k + 1)) t))
    rw [kind8 h8, (h1.1 k h8).1]
    simp only [Option.bind_some]
    have fin : ∀ b, sFeed (m (4 * k)) = b → ∃ μ', (if b then zf_X8_step_110 (upd μ 33 (c99 (t.1 - sSooth (m (4 * k)) (m (4 * k + 1)) t))) false else zf_X8_step_177 (upd μ 33 (c99 (t.1 - sSooth (m (4 * k)) (m (4 * k + 1)) t))) false) = some (bI (sHarm (sKept m k t)), μ', false) ∧ MSt m (sEnd (sKept m k t)) μ' ∧ ∀ q, q < 8 → μ' (4 * q + 3) = μ (4 * q + 3) := by
      intro b hb
      cases b with
      | true =>
        have h2 : MSt m (sKept m k t) (upd (upd μ 33 (c99 (t.1 - sSooth (m (4 * k)) (m (4 * k + 1)) t))) 35 (sGrow t.2.2.1 (decide (t.2.2.2.2 - t.2.2.2.2 / 4 * 4 = 0)))) := by
          have := MS35 h1 (sGrow t.2.2.1 (decide (t.2.2.2.2 - t.2.2.2.2 / 4 * 4 = 0)))
          unfold sKept
          rw [hb, Bool.true_and]
          exact this
        obtain ⟨μ', g1, g2, g3⟩ := step177 h2 (TR_kept ht) false
        refine ⟨μ', ?_, g2, fun q hq => by rw [g3 q hq, upd_n (by omega), upd_n (by omega)]⟩
        rw [if_pos rfl]
        unfold zf_X8_step_110
        rw [grow8 h1 ht.2.2.1.2 (by decide)]
        exact g1
      | false =>
        have h2 : MSt m (sKept m k t) (upd μ 33 (c99 (t.1 - sSooth (m (4 * k)) (m (4 * k + 1)) t))) := by
          unfold sKept
          rw [hb]
          exact h1
        obtain ⟨μ', g1, g2, g3⟩ := step177 h2 (TR_kept ht) false
        refine ⟨μ', ?_, g2, fun q hq => by rw [g3 q hq, upd_n (by omega)]⟩
        rw [if_neg (by decide)]
        exact g1
    obtain ⟨μ', g1, g2, g3⟩ := fin _ rfl
    refine ⟨μ', ?_, g2, fun q hq => by rw [g3 q hq, if_neg (fun z => by cases z.1)]⟩
    refine Eq.trans ?_ g1
    unfold sFeed
    by_cases q2 : m (4 * k) = 2
    · rw [if_pos q2, decide_eq_true q2, Bool.true_or, if_pos rfl]
    · rw [if_neg q2, decide_eq_false q2]
      by_cases q4 : m (4 * k) = 4
      · rw [if_pos q4, decide_eq_true q4, Bool.false_or, if_pos rfl]
      · rw [if_neg q4, decide_eq_false q4, Bool.false_or, if_neg (by decide)]
  | false =>
    rw [Option.bind_some, if_neg Bool.false_ne_true, if_neg Bool.false_ne_true, Bool.not_false]
    obtain ⟨μ', g1, g2, g3⟩ := step142 (MSf hM (μ (4 * k + 3) + 1) h8) ht true
    refine ⟨μ', ?_, g2, fun q hq => ?_⟩
    · unfold zf_X8_step_118
      rw [if_neg n1, show (4 : Int32) * nI k + 3 = nI (4 * k + 3) from e4a k 3, ix_nI (by omega) (by decide), cl_nI (by omega), if_pos rfl, if_pos rfl]
      exact g1
    · rw [g3 q hq]
      by_cases e : q = k
      · subst e
        rw [upd_s, if_pos ⟨rfl, rfl⟩]
      · rw [upd_n (by omega), if_neg (fun z => e ?_)]
        have := i_eq.mp z.2
        rw [nI_t (by omega), nI_t (by omega)] at this
        omega
theorem step8 (hM : MSt m t μ) (ht : TR t) {o : Int32} (ho : ORD m o) (fl : Bool) : ∃ μ', zf_X8_step o μ fl = some (bI (sHm m o t), μ', sFl m o t) ∧ MSt m (sHr m o t) μ' ∧ ∀ k, k < 8 → μ' (4 * k + 3) = if sFl m o t = true ∧ o = nI k then μ (4 * k + 3) + 1 else μ (4 * k + 3) := by
  rcases ho with rfl | rfl | ⟨k, h8, h, rfl⟩
  · exact step8n hM ht fl
  · exact step8m hM ht fl
  · exact step8k hM ht h8 fl
end M9
/-- keep and lay -/
theorem upd_fill (f g : Nat → Int32) (a i : Nat) : upd (fun j => if a ≤ j ∧ j < a + i then g (j - a) else f j) (a + i) (g i) = (fun j => if a ≤ j ∧ j < a + (i + 1) then g (j - a) else f j) := by
  funext j
  unfold upd
  by_cases e : j = a + i
  · rw [if_pos e, if_pos (by omega), e]; congr 1; omega
  · rw [if_neg e]
    show (if a ≤ j ∧ j < a + i then g (j - a) else f j) = _
    by_cases h : a ≤ j ∧ j < a + i
    · rw [if_pos h, if_pos (by omega)]
    · rw [if_neg h, if_neg (by omega)]
theorem keep_loop (μ f : Nat → Int32) (d : Nat) (hd : d < 7) : ∀ (r n i : Nat), i + r = 39 → r < n → zf_X8_keep_2 μ n (nI d) (nI i) (fun j => if 39 * d ≤ j ∧ j < 39 * d + i then μ (j - 39 * d) else f j) = some (fun j => if 39 * d ≤ j ∧ j < 39 * d + 39 then μ (j - 39 * d) else f j)
  | 0, n + 1, i, hi, _ => by
    rw [zf_X8_keep_2, if_pos (show (39 : Int32) ≤ nI i from nI_le (a := 39) (by omega) (by omega))]
    rw [show i = 39 by omega]
  | r + 1, n + 1, i, hi, hn => by
    rw [zf_X8_keep_2, if_neg (show ¬ (39 : Int32) ≤ nI i from nI_ge (b := 39) (by omega) (by decide)), ix_nI (by omega) (by decide)]
    rw [show (39 : Int32) * nI d + nI i = nI (39 * d + i) by rw [show (39 : Int32) = nI 39 from rfl, pk_mul, nI_add], ix_nI (by omega) (by decide), cl_nI (by omega), cl_nI (by omega), show nI i + 1 = nI (i + 1) from nI_1 i, upd_fill]
    exact keep_loop μ f d hd r n (i + 1) (by omega) (by omega)
  | r, 0, i, _, hn => by omega
theorem keep8 (μ f : Nat → Int32) {d : Nat} (hd : d < 7) : zf_X8_keep (nI d) μ f = some (fun j => if 39 * d ≤ j ∧ j < 39 * d + 39 then μ (j - 39 * d) else f j) := by
  have h := keep_loop μ f d hd 39 FU 0 (by decide) (by decide)
  unfold zf_X8_keep
  rw [← h]
  congr 1
  funext j
  rw [if_neg (by omega)]
theorem upd_fill0 (f g : Nat → Int32) (i : Nat) : upd (fun j => if j < i then g j else f j) i (g i) = (fun j => if j < i + 1 then g j else f j) := by
  funext j
  unfold upd
  by_cases e : j = i
  · rw [if_pos e, if_pos (by omega), e]
  · rw [if_neg e]
    show (if j < i then g j else f j) = _
    by_cases h : j < i
    · rw [if_pos h, if_pos (by omega)]
    · rw [if_neg h, if_neg (by omega)]
theorem lay_loop (g μ : Nat → Int32) (d : Nat) (hd : d < 7) : ∀ (r n i : Nat), i + r = 39 → r < n → zf_X8_lay_2 g n (nI d) (nI i) (fun j => if j < i then g (39 * d + j) else μ j) = some (fun j => if j < 39 then g (39 * d + j) else μ j)
  | 0, n + 1, i, hi, _ => by
    rw [zf_X8_lay_2, if_pos (show (39 : Int32) ≤ nI i from nI_le (a := 39) (by omega) (by omega))]
    rw [show i = 39 by omega]
  | r + 1, n + 1, i, hi, hn => by
    rw [zf_X8_lay_2, if_neg (show ¬ (39 : Int32) ≤ nI i from nI_ge (b := 39) (by omega) (by decide)), ix_nI (j := i) (by omega) (by decide)]
    rw [show (39 : Int32) * nI d + nI i = nI (39 * d + i) by rw [show (39 : Int32) = nI 39 from rfl, pk_mul, nI_add], ix_nI (by omega) (by decide), cl_nI (by omega), cl_nI (by omega), show nI i + 1 = nI (i + 1) from nI_1 i]
    rw [if_pos rfl, if_pos rfl, upd_fill0 μ (fun q => g (39 * d + q)) i]
    exact lay_loop g μ d hd r n (i + 1) (by omega) (by omega)
  | r, 0, i, _, hn => by omega
theorem lay8 (g μ : Nat → Int32) {d : Nat} (hd : d < 7) : zf_X8_lay (nI d) μ g = some (fun j => if j < 39 then g (39 * d + j) else μ j) := by
  have h := lay_loop g μ d hd 39 FU 0 (by decide) (by decide)
  unfold zf_X8_lay
  have e : (fun j => if j < 0 then g (39 * d + j) else μ j) = μ := by funext j; rw [if_neg (by omega)]
  rw [e] at h
  exact h
/-- laid back what was kept: the very same -/
theorem lay_keep {μ0 μ f : Nat → Int32} {d : Nat} (hd : d < 7) (h : ∀ j, 39 ≤ j → μ j = μ0 j) {g : Nat → Int32} (hg : ∀ j, j < 39 → g (39 * d + j) = μ0 j) : zf_X8_lay (nI d) μ g = some μ0 := by
  rw [lay8 g μ hd]
  refine congrArg some (funext fun j => ?_)
  by_cases q : j < 39
  · rw [if_pos q, hg j q]
  · rw [if_neg q, h j (by omega)]
/-- the minds behind a keep -/
def kp (d : Nat) (μ f : Nat → Int32) : Nat → Int32 := fun j => if 39 * d ≤ j ∧ j < 39 * d + 39 then μ (j - 39 * d) else f j
theorem kp_at (d : Nat) (μ f : Nat → Int32) (j : Nat) (hj : j < 39) : kp d μ f (39 * d + j) = μ j := by
  unfold kp
  rw [if_pos (by omega)]
  congr 1
  omega
theorem keepk (μ f : Nat → Int32) {d : Nat} (hd : d < 7) : zf_X8_keep (nI d) μ f = some (kp d μ f) := keep8 μ f hd
