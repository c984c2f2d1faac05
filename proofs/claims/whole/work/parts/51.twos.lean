/-! pure rows: twos taken from a shelf, and what fits them -/
variable {te : TTe} {st : TSt} {m : Nat → Int32} {n : Int32} {sh : TSh} {rf rfd ho sz mi : Nat → Int32} {el : Nat → Int64}
theorem e2 (k : Nat) : (2 : Int32) * nI k = nI (2 * k) := pk_mul 2 k
theorem e2a (k : Nat) : (2 : Int32) * nI k + 1 = nI (2 * k + 1) := by rw [e2]; exact nI_1 _
theorem isK_O {n : Int32} {v : Int64} (h : isK n v = true) : isO n v = true := by unfold isO; rw [h, Bool.or_true, Bool.or_true]
theorem in01 (v : Int64) : zf_X8_isIn v 0 1 = some (decide (v = 0 ∨ v = 1)) := by
  unfold zf_X8_isIn
  have e0 : (0 : Int64).toInt = 0 := rfl
  have e1 : (1 : Int64).toInt = 1 := rfl
  by_cases a : v < 0
  · rw [if_pos ((cmp_lt _ _).mpr a), decide_eq_false (fun q => by have := l_lt.mp a; rcases q with q | q <;> rw [q] at this <;> omega)]
  · rw [if_neg (fun q => a ((cmp_lt _ _).mp q))]
    have a' : ¬ v.toInt < (0 : Int64).toInt := fun y => a (l_lt.mpr y)
    by_cases b : 1 < v
    · rw [if_pos ((cmp_gt _ _).mpr b), decide_eq_false (fun q => by have := l_lt.mp b; rcases q with q | q <;> rw [q] at this <;> omega)]
    · have b' : ¬ (1 : Int64).toInt < v.toInt := fun y => b (l_lt.mpr y)
      rw [if_neg (fun q => b ((cmp_gt _ _).mp q)), decide_eq_true]
      by_cases z : v.toInt = 0
      · exact Or.inl (l_eq.mpr z)
      · exact Or.inr (l_eq.mpr (by omega))
theorem c01 {α : Type} (v : Int64) (x y : α) : (if lg_cmp v 0 < 0 then y else (if lg_cmp v 1 ≤ 0 then x else y)) = if (v = 0 ∨ v = 1) then x else y := by
  have e0 : (0 : Int64).toInt = 0 := rfl
  have e1 : (1 : Int64).toInt = 1 := rfl
  by_cases a : v < 0
  · rw [if_pos ((cmp_lt _ _).mpr a), if_neg (fun q => by have := l_lt.mp a; rcases q with q | q <;> rw [q] at this <;> omega)]
  · rw [if_neg (fun q => a ((cmp_lt _ _).mp q))]
    have a' : ¬ v.toInt < (0 : Int64).toInt := fun y => a (l_lt.mpr y)
    by_cases b : 1 < v
    · rw [if_neg (show ¬ lg_cmp v 1 ≤ 0 from fun q => by have h := (cmp_gt v 1).mpr b; have := i_lt.mp h; have := i_le.mp q; omega), if_neg (fun q => by have := l_lt.mp b; rcases q with q | q <;> rw [q] at this <;> omega)]
    · have b' : ¬ (1 : Int64).toInt < v.toInt := fun y => b (l_lt.mpr y)
      rw [if_pos (show lg_cmp v 1 ≤ 0 from i_le.mpr (i_nlt (fun q => b ((cmp_gt v 1).mp q)))), if_pos]
      by_cases z : v.toInt = 0
      · exact Or.inl (l_eq.mpr z)
      · exact Or.inr (l_eq.mpr (by omega))
/-- what a good row of twos is -/
def TW (m : Nat → Int32) (el : Nat → Int64) (j i : Nat) : Prop := isK (m 32) (el (40 * j + 2 * i)) = true ∧ (el (40 * j + (2 * i + 1)) = 0 ∨ el (40 * j + (2 * i + 1)) = 1)
theorem twos_loop (hs : RS (m 32) sh ho sz el) (hS : st.1 = m 32) (hn : bnd (m 32) 0 8) {j c : Nat} (hj : j < 8) (hc : c ≤ 20) (hw : win (ho j) 0 4 = true) (hz : ((c * 2 : Nat) : Int) ≤ (sz j).toInt) (pl : Nat → Int32) : ∀ (r f i : Nat), i + r = c → r < f → (∀ q, q < i → TW m el j q) → (zf_X7_takeTwos_23 st sh f (nI j) (nI c) (nI i) pl = some (-5, pl) ∧ zf_X8_twos_58 m ho sz el f (nI j) (nI c) (nI i) = some (-5)) ∨ (zf_X7_takeTwos_23 st sh f (nI j) (nI c) (nI i) pl = Option.bind (zf_X7_takePlan (nI j) (nI (2 * c)) sh pl) (fun u4 => some (0, u4)) ∧ zf_X8_twos_58 m ho sz el f (nI j) (nI c) (nI i) = some 1 ∧ ∀ q, q < c → TW m el j q)
  | _, 0, _, _, h, _ => absurd h (Nat.not_lt_zero _)
  | 0, f + 1, i, h0, _, h => by
    have e : i = c := by omega
    subst e
    unfold zf_X7_takeTwos_23 zf_X8_twos_58
    rw [if_pos (i_le.mpr (Int.le_refl _)), if_pos (i_le.mpr (Int.le_refl _)), e2]
    exact Or.inr ⟨rfl, rfl, h⟩
  | r + 1, f + 1, i, h0, hf, h => by
    have hq : ¬ nI c ≤ nI i := nle (by omega) (by omega)
    unfold zf_X7_takeTwos_23 zf_X8_twos_58
    rw [if_neg hq, if_neg hq, e2a, e2, elAt7 hs hj (by omega) hw (by omega), elAt7 hs hj (by omega) hw (by omega), told8 el hj (by omega), told8 el hj (by omega)]
    simp only [Option.bind_some, keeper7 _ hS, keeper8 _ hn, in01, c01]
    rw [nI_1]
    cases hk : isK (m 32) (el (40 * j + 2 * i))
    · exact Or.inl ⟨rfl, rfl⟩
    · rw [if_pos rfl, if_pos rfl]
      by_cases z : el (40 * j + (2 * i + 1)) = 0 ∨ el (40 * j + (2 * i + 1)) = 1
      · rw [if_pos z, decide_eq_true z, if_pos rfl]
        refine twos_loop hs hS hn hj hc hw hz pl r f (i + 1) (by omega) (by omega) (fun q hq => ?_)
        by_cases e : q = i
        · subst e; exact ⟨hk, z⟩
        · exact h q (by omega)
      · rw [if_neg z, decide_eq_false z, if_neg Bool.false_ne_true]
        exact Or.inl ⟨rfl, rfl⟩
theorem twos8x (hs : RS n sh ho sz el) (x1 x2 : Int32) (b : Bool) (T : Option Int32) : (Option.bind (zf_X8_isShelf x1) (fun u1 => (if u1 then (Option.bind (zf_X8_isIn x2.toInt64 (((0 : Int64))) (((20 : Int64)))) (fun u3 => (if u3 then (if b then (Option.bind (zf_X8_rowIn x1 ho) (fun u6 => (if 0 ≤ u6 then (if ix x1 8 then (if ((2 : Int32) * x2) ≤ (sz x1.toNatClampNeg) then T else some ((-2 : Int32))) else none) else (Option.bind (zf_X8_rowIn x1 ho) (fun u10 => some (u10)))))) else some ((-2 : Int32))) else some ((-2 : Int32))))) else some ((-2 : Int32))))) = if efv ho sz x1 x2 20 2 b = 0 then T else some (efv ho sz x1 x2 20 2 b) := by
  unfold efv
  rw [shelf8, win8 (a := 0) (b := 20) (by decide) (by decide), Option.bind_some, Option.bind_some]
  cases h1 : win x1 0 7
  · rfl
  cases h2 : win x2 0 20
  · cases b <;> rfl
  cases b
  · rfl
  rw [if_pos rfl, if_pos rfl, if_pos rfl, if_pos rfl, Bool.and_self, if_pos rfl]
  obtain ⟨j, hj, rfl⟩ := win_sh h1
  obtain ⟨c, hc, rfl⟩ := win_nI (B := 20) (by decide) h2
  have ec : nI c * 2 = nI (2 * c) := by rw [Int32.mul_comm]; exact e2 c
  rw [rowIn8 hs hj, Option.bind_some, Option.bind_some, if_pos (ix_nI hj (by decide)), cl_nI (by omega), ec, e2]
  rcases hok (hs j hj).2.2.1 with ⟨e, e1, e2⟩ | ⟨e1, e2, e3, e4⟩ | ⟨k, h8, hn, e, e1, e2, e3, e4⟩
  · rw [if_pos e2, if_pos e, if_pos e2, if_pos e]; rfl
  · rw [if_pos e2, if_neg e3, if_pos e2, if_neg e3, if_pos (by decide)]
    by_cases hz : nI (2 * c) ≤ sz j
    · rw [if_pos hz, if_pos (show hSt 0 (nI (2 * c)) (sz j) = true from decide_eq_true (by have := i_le.mp hz; rw [nI_t (by omega)] at this ⊢; rw [show (0 : Int32).toInt = 0 from rfl]; omega)), if_pos rfl]
    · rw [if_neg hz, if_neg (show ¬ hSt 0 (nI (2 * c)) (sz j) = true from fun y => hz (i_le.mpr (by have := of_decide_eq_true y; rw [show (0 : Int32).toInt = 0 from rfl] at this; omega)))]; rfl
  · rw [if_neg e2, if_neg e2]; rfl
theorem twos8 (hs : RS n sh ho sz el) (x1 x2 : Int32) (b : Bool) : zf_X8_twos b x1 x2 m ho sz el = if efv ho sz x1 x2 20 2 b = 0 then zf_X8_twos_58 m ho sz el FU x1 x2 0 else some (efv ho sz x1 x2 20 2 b) := twos8x hs x1 x2 b _
theorem twos_both (hs : RS (m 32) sh ho sz el) (hS : st.1 = m 32) (hn : bnd (m 32) 0 8) (x1 x2 : Int32) (b : Bool) (pl : Nat → Int32) : (∃ e, FE e ∧ zf_X7_takeTwos x1 x2 b st sh pl = some (e, pl) ∧ zf_X8_twos b x1 x2 m ho sz el = some e) ∨ (∃ j c pl', j < 8 ∧ c ≤ 20 ∧ x1 = nI j ∧ x2 = nI c ∧ b = true ∧ zf_X7_takeTwos x1 x2 b st sh pl = some (0, pl') ∧ zf_X8_twos b x1 x2 m ho sz el = some 1 ∧ (∀ i, i < c → TW m el j i) ∧ ∀ q, q < 2 * c → pl' q = (el (40 * j + q)).toInt32) := by
  unfold zf_X7_takeTwos
  rw [elF7 hs, twos8 hs, Option.bind_some]
  by_cases h : efv ho sz x1 x2 20 2 b = 0
  · have hb : b = true := by
      cases b
      · unfold efv at h
        rw [Bool.false_and, if_neg Bool.false_ne_true] at h
        by_cases y : win x1 0 7 = true
        · rw [if_pos y] at h; exact absurd h (by decide)
        · rw [if_neg y] at h; exact absurd h (by decide)
      · rfl
    obtain ⟨j, c, hj, e1, hc, e2', hz, hw⟩ := efv_0 hs (K := 20) (Q := 2) rfl (by decide) (by decide) h
    rw [h, if_pos rfl, if_pos rfl]
    subst e1 e2'
    obtain ⟨pl', p1, p2⟩ := plan_loop hs (c := 2 * c) hj (by omega) hw (by omega) (2 * c) FU 0 pl (by omega) (by show 2 * c < 2000; omega) (fun q hq => absurd hq (Nat.not_lt_zero _))
    rcases twos_loop hs hS hn hj hc hw hz pl c FU 0 (by omega) (by show c < 2000; omega) (fun q hq => absurd hq (Nat.not_lt_zero _)) with ⟨k1, k2⟩ | ⟨k1, k2, k3⟩
    · exact Or.inl ⟨-5, Or.inr (Or.inr (Or.inr (Or.inl rfl))), k1, k2⟩
    · refine Or.inr ⟨j, c, pl', hj, hc, rfl, rfl, hb, ?_, k2, k3, p2⟩
      have p1' : zf_X7_takePlan (nI j) (nI (2 * c)) sh pl = some pl' := p1
      rw [p1'] at k1
      exact k1
  · have hFE := FE3 ((efv_FE ho sz x1 x2 20 2 b).resolve_left h)
    rw [if_neg h, if_neg h]
    exact Or.inl ⟨_, hFE, rfl, rfl⟩

/-- do the hours go as the twos tell -/
def fit (m o : Nat → Int32) (w : Nat → Bool) : Nat → Nat → T5 → Bool
  | 0, _, _ => true
  | r + 1, i, t => if (!sFl m (o i) t) = w i then fit m o w r (i + 1) (sHr m (o i) t) else false
def twO (el : Nat → Int64) (j : Nat) : Nat → Int32 := fun i => (el (40 * j + 2 * i)).toInt32
def twW (el : Nat → Int64) (j : Nat) : Nat → Bool := fun i => decide (el (40 * j + (2 * i + 1)) = 1)
theorem bI_eq (a b : Bool) : bI a = bI b ↔ a = b := by cases a <;> cases b <;> decide
theorem fits7_loop (hS : SM st m) (hK : KR m) {j c : Nat} (hc : c ≤ 20) (hO : ∀ i, i < c → ORD m (twO el j i)) (hT : ∀ i, i < c → (el (40 * j + (2 * i + 1)) = 0 ∨ el (40 * j + (2 * i + 1)) = 1)) {pl : Nat → Int32} (hp : ∀ q, q < 2 * c → pl q = (el (40 * j + q)).toInt32) : ∀ (r f i : Nat) (t : T5) (b : Bool) (f0 : Int32), i + r = c → r < f → ∃ tr', zf_X7_fitsTwos_2 pl st f (nI c) (nI i) (te5 t b f0) = some (fit m (twO el j) (twW el j) r i t, tr')
  | _, 0, _, _, _, _, _, h => absurd h (Nat.not_lt_zero _)
  | 0, f + 1, i, t, b, f0, h0, _ => by
    have e : i = c := by omega
    subst e
    unfold zf_X7_fitsTwos_2
    rw [if_pos (i_le.mpr (Int.le_refl _))]
    exact ⟨_, rfl⟩
  | r + 1, f + 1, i, t, b, f0, h0, hf => by
    have hq : ¬ nI c ≤ nI i := nle (by omega) (by omega)
    have hq2 : ¬ (48 : Int32) ≤ nI (2 * i + 1) := nle (a := 48) (by omega) (by decide)
    obtain ⟨f', p1, p2, -⟩ := pass7 hS hK (hO i (by omega)) t b f0
    unfold zf_X7_fitsTwos_2 fit zf_X7_fitsTwos_52 zf_X7_fitsTwos_75
    rw [if_neg hq, e2a, if_neg hq2, e2, if_pos (ix_nI (by omega) (by decide)), cl_nI (by omega), cl_nI (by omega), hp (2 * i) (by omega), hp (2 * i + 1) (by omega), show (el (40 * j + 2 * i)).toInt32 = twO el j i from rfl, p1, Option.bind_some, if_pos (ix_nI (by omega) (by decide)), if_pos (ix_nI (by omega) (by decide)), nI_1]
    have hw : ((el (40 * j + (2 * i + 1))).toInt32 = 1) ↔ twW el j i = true := by
      unfold twW
      rw [decide_eq_true_iff]
      rcases hT i (by omega) with z | z <;> rw [z] <;> decide
    show ∃ tr', (if f' = -1 then _ else _) = _
    cases hs : sFl m (twO el j i) t
    · rw [if_pos (p2.mpr hs)]
      cases hv : twW el j i
      · rw [if_neg (fun y => by have := hw.mp y; rw [hv] at this; cases this), if_neg (by decide), if_neg (by decide)]
        exact ⟨_, rfl⟩
      · rw [if_pos (hw.mpr hv), if_pos rfl, if_pos (by decide)]
        exact fits7_loop hS hK hc hO hT hp r f (i + 1) _ _ f' (by omega) (by omega)
    · rw [if_neg (fun y => by have := p2.mp y; rw [hs] at this; cases this)]
      cases hv : twW el j i
      · rw [if_neg (fun y => by have := hw.mp y; rw [hv] at this; cases this), if_pos rfl, if_pos (by decide)]
        exact fits7_loop hS hK hc hO hT hp r f (i + 1) _ _ f' (by omega) (by omega)
      · rw [if_pos (hw.mpr hv), if_neg (by decide), if_neg (by decide)]
        exact ⟨_, rfl⟩
theorem keep1 (m mi : Nat → Int32) : zf_X8_keep 1 m mi = some (kp 1 m mi) := keepk m mi (d := 1) (by decide)
theorem lay1 {t : T5} {μ : Nat → Int32} (h : MSt m t μ) (mi : Nat → Int32) : zf_X8_lay 1 μ (kp 1 m mi) = some m := lay_keep (f := mi) (d := 1) (by decide) (fun j hj => h.2.2.2.2.2.2.2.2 j hj) (fun j hj => kp_at 1 m mi j hj)
theorem kp1_lo (m f : Nat → Int32) {j : Nat} (h : j < 39) : kp 1 m f j = f j := by unfold kp; rw [if_neg (by omega)]
theorem fits8_stop {t : T5} {μ : Nat → Int32} (hM : MSt m t μ) (f : Nat) (x y : Int32) {i : Int32} (v : Bool) (h : y ≤ i ∨ v = false) (fl : Bool) : zf_X8_fits_10 el (f + 1) x y v i μ (kp 1 m mi) fl = some (v, m, kp 1 m mi, fl) := by
  unfold zf_X8_fits_10 zf_X8_fits_79
  rw [lay1 hM, Option.bind_some]
  by_cases z : y ≤ i
  · rw [if_pos z]
  · rw [if_neg z]
    have hv := h.resolve_left z
    rw [hv, if_neg Bool.false_ne_true]
theorem fits8_loop {j c : Nat} (hj : j < 8) (hc : c ≤ 20) (hO : ∀ i, i < c → ORD m (twO el j i)) (hT : ∀ i, i < c → (el (40 * j + (2 * i + 1)) = 0 ∨ el (40 * j + (2 * i + 1)) = 1)) : ∀ (r f i : Nat) (t : T5) (μ : Nat → Int32) (fl : Bool), TR t → i + r = c → r < f → MSt m t μ → ∃ fl', zf_X8_fits_10 el f (nI j) (nI c) true (nI i) μ (kp 1 m mi) fl = some (fit m (twO el j) (twW el j) r i t, m, kp 1 m mi, fl')
  | _, 0, _, _, _, _, _, _, h, _ => absurd h (Nat.not_lt_zero _)
  | 0, f + 1, i, t, μ, fl, _, h0, _, hM => by
    have e : i = c := by omega
    subst e
    rw [fits8_stop hM f _ _ _ (Or.inl (i_le.mpr (Int.le_refl _)))]
    exact ⟨_, rfl⟩
  | r + 1, f + 1, i, t, μ, fl, ht, h0, hf, hM => by
    have hq : ¬ nI c ≤ nI i := nle (by omega) (by omega)
    obtain ⟨μ', s1, s2, -⟩ := step8 hM ht (hO i (by omega)) fl
    obtain ⟨g, rfl⟩ : ∃ g, f = g + 1 := ⟨f - 1, by omega⟩
    conv => enter [1, fl', 1]; unfold zf_X8_fits_10
    unfold zf_X8_fits_64 zf_X8_fits_72 fit
    rw [if_neg hq, if_pos rfl, e2a, e2, told8 el hj (by omega), told8 el hj (by omega), Option.bind_some, show (el (40 * j + 2 * i)).toInt32 = twO el j i from rfl, s1, Option.bind_some, Option.bind_some, nI_1]
    dsimp only
    have hw : (lg_cmp (el (40 * j + (2 * i + 1))) 0 = 0) ↔ twW el j i = false := by
      unfold twW
      rw [cmp_eq, decide_eq_false_iff_not]
      rcases hT i (by omega) with z | z <;> rw [z] <;> decide
    cases hs : sFl m (twO el j i) t
    · cases hv : twW el j i
      · rw [if_pos (hw.mpr hv), if_neg (by decide), if_neg (by decide), fits8_stop s2 g _ _ _ (Or.inr rfl)]
        exact ⟨_, rfl⟩
      · rw [if_neg (fun y => by have := hw.mp y; rw [hv] at this; cases this), if_pos (by decide), if_pos (by decide)]
        exact fits8_loop hj hc hO hT r (g + 1) (i + 1) _ μ' _ (TR_hr ht) (by omega) (by omega) s2
    · cases hv : twW el j i
      · rw [if_pos (hw.mpr hv), if_pos (by decide), if_pos (by decide)]
        exact fits8_loop hj hc hO hT r (g + 1) (i + 1) _ μ' _ (TR_hr ht) (by omega) (by omega) s2
      · rw [if_neg (fun y => by have := hw.mp y; rw [hv] at this; cases this), if_neg (by decide), if_neg (by decide), fits8_stop s2 g _ _ _ (Or.inr rfl)]
        exact ⟨_, rfl⟩
