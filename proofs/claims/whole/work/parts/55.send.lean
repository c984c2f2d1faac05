/-! pure rows: send -/
variable {te : TTe} {st : TSt} {m : Nat → Int32} {n : Int32} {sh : TSh} {rf rfd ho sz mi : Nat → Int32} {el : Nat → Int64}
/-- at how many of the first i fitting rages keeper k stays -/
def sC (m : Nat → Int32) (F : Nat → Bool) (k : Nat) : Nat → Int32
  | 0 => 0
  | i + 1 => if (F i && sStay m k (nI i, (t5 m).2)) = true then sC m F k i + 1 else sC m F k i
def mL (A s : Int32) : Int32 := if s < A - s then A - s else s
theorem sC_rng (F : Nat → Bool) (k : Nat) : ∀ i, bnd (sC m F k i) 0 i
  | 0 => ⟨0, by omega, by omega, rfl⟩
  | i + 1 => by
    obtain ⟨a, -, h2, e⟩ := sC_rng F k i
    unfold sC
    rw [e]
    split
    · exact ⟨a + 1, by omega, by omega, nI_1 a⟩
    · exact ⟨a, by omega, by omega, rfl⟩
theorem tC_rng (F : Nat → Bool) : ∀ i, bnd (tC F i) 0 i
  | 0 => ⟨0, by omega, by omega, rfl⟩
  | i + 1 => by
    obtain ⟨a, -, h2, e⟩ := tC_rng F i
    unfold tC
    rw [e]
    split
    · exact ⟨a + 1, by omega, by omega, nI_1 a⟩
    · exact ⟨a, by omega, by omega, rfl⟩
theorem mL_le {A s : Int32} {K : Nat} (hK : K ≤ 100) (hA : bnd A 0 K) (hs : bnd s 0 K) : (mL A s).toInt ≤ 100 := by
  obtain ⟨a, -, h1, rfl⟩ := hA
  obtain ⟨b, -, h2, rfl⟩ := hs
  unfold mL
  have e : (nI a - nI b).toInt = (a : Int) - b := by
    rw [i_sub (by rw [nI_t (by omega), nI_t (by omega)]; omega) (by rw [nI_t (by omega), nI_t (by omega)]; omega), nI_t (by omega), nI_t (by omega)]
  split
  · rw [e]; omega
  · rw [nI_t (by omega)]; omega
theorem most7_loop (hS : SM st m) (hn : bnd (m 32) 0 8) {k : Nat} (h8 : k < 8) (hk : nI k < m 32) (tx : TTe) (b : Bool) (f0 : Int32) {F : Nat → Bool} {fg : Nat → Int32} (hfg : ∀ p, p < 100 → fg p = bI (F p)) (ta : TTy) {K : Nat} (hK : K = 100) : ∀ (r f i : Nat) (x : Int32), i + r = K → r < f → ∃ tr', zf_X7_mostLeftBy_15 tx st ta fg f (nI k) (sC m F k i) (nI i) (te5 (x, (t5 m).2) b f0) = some (mL ta.1 (sC m F k K), tr')
  | _, 0, _, _, _, h => absurd h (Nat.not_lt_zero _)
  | 0, f + 1, i, x, h0, _ => by
    have e : i = K := by omega
    subst e
    unfold zf_X7_mostLeftBy_15
    rw [if_pos (show (100 : Int32) ≤ nI i from by rw [hK]; decide)]
    exact ⟨_, rfl⟩
  | r + 1, f + 1, i, x, h0, hf => by
    unfold zf_X7_mostLeftBy_15 zf_X7_mostLeftBy_59
    have e := remains7 hS hn h8 hk (nI i, (t5 m).2) b f0
    have e' : zf_X2_remains (nI k) st (nI i, (te5 (x, (t5 m).2) b f0).2.1, (te5 (x, (t5 m).2) b f0).2.2.1, (te5 (x, (t5 m).2) b f0).2.2.2.1, (te5 (x, (t5 m).2) b f0).2.2.2.2.1, (te5 (x, (t5 m).2) b f0).2.2.2.2.2.1, (te5 (x, (t5 m).2) b f0).2.2.2.2.2.2) = _ := e
    rw [if_neg (le100 (by omega)), if_pos (ix_nI (by omega) (by decide)), cl_nI (by omega), hfg i (by omega), e', Option.bind_some, nI_1]
    have ih := most7_loop hS hn h8 hk tx b f0 hfg ta hK r f (i + 1) (nI i) (by omega) (by omega)
    have es : sC m F k (i + 1) = if (F i && sStay m k (nI i, (t5 m).2)) = true then sC m F k i + 1 else sC m F k i := rfl
    rw [es] at ih
    cases hF : F i
    · rw [hF, Bool.false_and, if_neg Bool.false_ne_true] at ih
      rw [if_pos (show bI false = 0 from rfl)]
      exact ih
    · rw [hF, Bool.true_and] at ih
      rw [if_neg (show ¬ bI true = 0 by decide)]
      cases hs : sStay m k (nI i, (t5 m).2)
      · rw [hs, if_neg Bool.false_ne_true] at ih
        rw [if_neg Bool.false_ne_true]
        exact ih
      · rw [hs, if_pos rfl] at ih
        rw [if_pos rfl]
        exact ih
theorem most8_loop (kk : Int32 → Int32 → Int32 → Int32 → Int32 → (Nat → Int32) → (Nat → Int32) → (Nat → Int32) → Bool → (Nat → Int32) → Option (Int32 × (Nat → Int32) × (Nat → Int32) × (Nat → Int32) × Bool × (Nat → Int32))) {k : Nat} (h8 : k < 8) {F : Nat → Bool} {ft : Nat → Int32} (hft : ∀ p, p < 100 → ft p = bI (F p)) (A v5 v6 v7 : Int32) (fl : Bool) {K : Nat} (hK : K = 100) : ∀ (r f i : Nat) (μ : Nat → Int32), i + r = K → r < f → (∀ p, p ≠ 33 → μ p = m p) → ∃ μ', (∀ p, p ≠ 33 → μ' p = m p) ∧ zf_X8_send_75 ho sz el kk f A v5 v6 v7 (nI k) (sC m F k i) (nI i) rfd μ mi fl ft = (if v6 ≤ mL A (sC m F k K) then kk A v5 (if v6 < mL A (sC m F k K) then v6 else mL A (sC m F k K)) v7 (nI (k + 1)) rfd μ' mi fl ft else kk A (nI k) (if v6 < mL A (sC m F k K) then v6 else mL A (sC m F k K)) v7 (nI (k + 1)) rfd μ' mi fl ft)
  | _, 0, _, _, _, h, _ => absurd h (Nat.not_lt_zero _)
  | 0, f + 1, i, μ, h0, _, hM => by
    have e : i = K := by omega
    subst e
    unfold zf_X8_send_75 zf_X8_send_152
    rw [if_pos (show (100 : Int32) ≤ nI i from by rw [hK]; decide), nI_1]
    exact ⟨μ, hM, rfl⟩
  | r + 1, f + 1, i, μ, h0, hf, hM => by
    unfold zf_X8_send_75 zf_X8_send_116 zf_X8_send_117
    rw [if_neg (le100 (by omega)), if_pos (ix_nI (by omega) (by decide)), cl_nI (by omega), hft i (by omega), MSt_33 hM, staying8 (MS33 (MSt_self m) (nI i)) h8, Option.bind_some, nI_1]
    have ih := most8_loop kk h8 hft A v5 v6 v7 fl hK r f (i + 1) (upd m 33 (nI i)) (by omega) (by omega) (fun p hp => upd_n hp)
    have es : sC m F k (i + 1) = if (F i && sStay m k (nI i, (t5 m).2)) = true then sC m F k i + 1 else sC m F k i := rfl
    rw [es] at ih
    have z0 : ∀ v : Int32, v + bI false = v := fun v => Int32.add_zero v
    cases hF : F i
    · rw [hF, Bool.false_and, if_neg Bool.false_ne_true] at ih
      rw [if_pos (show bI false = 0 from rfl), z0]
      exact ih
    · rw [hF, Bool.true_and] at ih
      rw [if_neg (show ¬ bI true = 0 by decide)]
      cases hs : sStay m k (nI i, (t5 m).2)
      · rw [hs, if_neg Bool.false_ne_true] at ih
        rw [if_neg Bool.false_ne_true, z0]
        exact ih
      · rw [hs, if_pos rfl] at ih
        rw [if_pos rfl]
        exact ih
