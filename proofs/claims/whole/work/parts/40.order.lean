/-! pure rows: orders carried out -/
variable {te : TTe} {st : TSt} {m : Nat → Int32} {n : Int32} {sh : TSh} {rf rfd ho sz : Nat → Int32} {el : Nat → Int64}
def FBk (F : Nat) (m : Nat → Int32) : Prop := ∀ k, k < 8 → bnd (m (4 * k + 3)) 0 F
theorem isK_m1 (n : Int32) : isK n (-1 : Int32).toInt64 = false := decide_eq_false (fun h => absurd h.1 (by decide))
theorem MSt_RNG {t : T5} {μ : Nat → Int32} (hr : RNG m) (ht : TR t) (h : MSt m t μ) : RNG μ := by
  obtain ⟨h1, h2, h3, h4, h5, h6, h7, h8, h9⟩ := h
  refine ⟨h2 ▸ hr.1, ?_, ?_, ?_, ?_, ?_, fun k hk => ?_⟩
  · rw [h3]; exact (bnd_iff (by decide)).mpr ht.1
  · rw [h4]; exact (bnd_iff (by decide)).mpr ht.2.1
  · rw [h5]; exact (bnd_iff (by decide)).mpr ht.2.2.1
  · rw [h6]; exact (bnd_iff (by decide)).mpr ht.2.2.2.1
  · rw [h7]; exact (bnd_iff (by decide)).mpr ht.2.2.2.2
  · obtain ⟨a, b, c⟩ := h1 k hk
    rw [a, b, c]
    exact hr.2.2.2.2.2.2 k hk
/-- an order carried out, on both sides -/
theorem carry (hc : RC te st m) (hr : RNG m) {o : Int32} (ho : ORD m o) (fl : Bool) : ∃ te' st' μ', zf_X7_carryOut o te st = some (bI (sHm m o (t5 m)), te', st') ∧ zf_X8_step o m fl = some (bI (sHm m o (t5 m)), μ', sFl m o (t5 m)) ∧ RC te' st' μ' ∧ RNG μ' ∧ μ' 38 = m 38 ∧ μ' 32 = m 32 ∧ te'.1 = μ' 33 ∧ ∀ F, FBk F m → FBk (F + 1) μ' := by
  have hS := RC_SM hc
  have hK := RNG_KR hr
  obtain ⟨f', p1, p2, p3⟩ := pass7 hS hK ho (t5 m) te.2.2.2.2.2.1 te.2.2.2.2.2.2
  obtain ⟨μ', s1, s2, s3⟩ := step8 (MSt_self m) (RNG_TR hr) ho fl
  have hR := MSt_RNG hr (TR_hr (RNG_TR hr)) s2
  have hq := s2
  obtain ⟨h1, h2, h3, h4, h5, h6, h7, h8, h9⟩ := s2
  have key : ∃ st', zf_X2_noteFled f' st = some st' ∧ RC (te5 (sHr m o (t5 m)) (sHm m o (t5 m)) f') st' μ' := by
    unfold zf_X2_noteFled
    rw [hasKx hS hr.1]
    cases hfl : sFl m o (t5 m)
    · have ef := p2.mpr hfl
      rw [ef, isK_m1, Option.bind_some, if_neg Bool.false_ne_true]
      refine ⟨st, rfl, h3.symm, h4.symm, h5.symm, h6.symm, h7.symm, hS.1.trans h2.symm, fun k hk => ?_⟩
      obtain ⟨a, b, c⟩ := h1 k hk
      have d := s3 k hk
      rw [hfl, if_neg (fun q => absurd q.1 Bool.false_ne_true)] at d
      obtain ⟨k0, k1, k2, k3⟩ := hc.2.2.2.2.2.2 k hk
      exact ⟨k0.trans a.symm, k1.trans b.symm, k2.trans c.symm, k3.trans d.symm⟩
    · have ef := p3 hfl
      rcases ho with e | e | ⟨k, h8', hk, e⟩
      · rw [e] at hfl; rw [sFl_n] at hfl; cases hfl
      · rw [e] at hfl; rw [sFl_m] at hfl; cases hfl
      · rw [ef, e, isK_nI hr.1 h8' hk, Option.bind_some, if_pos rfl, if_pos (ix_nI h8' (by decide)), if_pos (ix_nI h8' (by decide)), cl_nI (by omega)]
        refine ⟨_, rfl, ?_⟩
        rw [← e]
        refine ⟨h3.symm, h4.symm, h5.symm, h6.symm, h7.symm, hS.1.trans h2.symm, fun q hq => ?_⟩
        obtain ⟨a, b, c⟩ := h1 q hq
        have d := s3 q hq
        obtain ⟨k0, k1, k2, k3⟩ := hc.2.2.2.2.2.2 q hq
        refine ⟨k0.trans a.symm, k1.trans b.symm, k2.trans c.symm, ?_⟩
        show upd _ _ _ q = _
        rw [hfl] at d
        by_cases eq : q = k
        · subst eq
          rw [upd_s, k3, d, if_pos ⟨rfl, e⟩]
        · rw [upd_n eq, k3, d, if_neg (fun y => eq ((nIeq (by omega) (by omega)).mp (e.symm.trans y.2)).symm)]
  obtain ⟨st', e1, e2⟩ := key
  have hF : ∀ F, FBk F m → FBk (F + 1) μ' := by
    intro F hF k hk
    rw [s3 k hk]
    obtain ⟨a, -, h2, e⟩ := hF k hk
    split
    · rw [e, nI_1]; exact ⟨a + 1, by omega, by omega, rfl⟩
    · exact ⟨a, by omega, by omega, e⟩
  refine ⟨_, st', μ', ?_, s1, e2, hR, h8, h2, h3.symm, hF⟩
  unfold zf_X7_carryOut
  conv => lhs; rw [RC_te hc]
  rw [p1, Option.bind_some]
  show Option.bind (zf_X2_noteFled f' st) _ = _
  rw [e1, Option.bind_some]
  show (if sHm m o (t5 m) = true then _ else _) = _
  cases sHm m o (t5 m) <;> rfl
theorem FBk_N {F N : Nat} {x : Nat → Int32} (h : FBk F x) (hF : F ≤ 60 * (N + 1)) : FB (N + 1) x := fun k hk => by obtain ⟨a, h1, h2, e⟩ := h k hk; exact ⟨a, h1, by omega, e⟩
theorem q_order (hc : RC te st m) (hr : RNG m) (hf : RF rf rfd) (x1 : Int32) (fl : Bool) : ∃ r1 r2, zf_X7_order x1 te st rf = some r1 ∧ zf_X8_order x1 rfd m fl = some r2 ∧ r1.1 = r2.1 ∧ RC r1.2.1 r1.2.2.1 r2.2.2.1 ∧ RNG r2.2.2.1 ∧ r2.2.2.1 38 = m 38 ∧ r2.2.2.1 32 = m 32 ∧ RF r1.2.2.2 r2.2.1 ∧ ∀ F, FBk F m → FBk (F + 1) r2.2.2.1 := by
  unfold zf_X7_order zf_X8_order
  rw [order7 _ (RC_SM hc).1, order8 _ hr.1, Option.bind_some, Option.bind_some]
  cases h : isO (m 32) x1.toInt64
  · rw [r7_2, r8_2]
    exact ⟨_, _, rfl, rfl, rfl, hc, hr, rfl, rfl, rf_2 hf, fun F h k hk => by obtain ⟨a, h1, h2, e⟩ := h k hk; exact ⟨a, h1, by omega, e⟩⟩
  · obtain ⟨te', st', μ', e1, e2, e3, e4, e5, e6, e7, e8⟩ := carry hc hr (isO_32 hr.1 h) fl
    rw [if_pos rfl, if_pos rfl, e1, e2]
    exact ⟨_, _, rfl, rfl, e7, e3, e4, e5, e6, hf, e8⟩
theorem pl_order : PL_order := by
  intro σ μ x1 N hN hrel
  obtain ⟨hc, hk, hf, hs, ht, ha, hwd⟩ := hrel
  obtain ⟨r1, r2, h1, h2, h3, h4, h5, h6, h7, h8, h9⟩ := q_order hc.1 hc.2.1 hf x1 μ.2.2.2.2.2.2.2.2.2.2.2.1
  exact ⟨r1, r2, h1, h2, h3, ⟨h4, h5, hc.2.2.trans h6.symm⟩, hk, h8, RS_eq hs h7, ht, ha, upF (fun y => FBk_N (h9 _ y) (by omega)) hwd⟩
