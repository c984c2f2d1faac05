/-! pure rows: the shelves -/
theorem up {W : Prop} {N : Nat} {m km : Nat → Int32} {b : Bool} (h : W ∧ FB N m ∧ (b = true → FB N km)) : W ∧ FB (N + 1) m ∧ (b = true → FB (N + 1) km) := ⟨h.1, FB_up h.2.1, fun q => FB_up (h.2.2 q)⟩
theorem upE {W : Prop} {N : Nat} {m x km : Nat → Int32} {b : Bool} (e : x = m) (h : W ∧ FB N m ∧ (b = true → FB N km)) : W ∧ FB (N + 1) x ∧ (b = true → FB (N + 1) km) := ⟨h.1, e ▸ FB_up h.2.1, fun q => FB_up (h.2.2 q)⟩
theorem upF {W : Prop} {N : Nat} {m x km : Nat → Int32} {b : Bool} (e : FB N m → FB (N + 1) x) (h : W ∧ FB N m ∧ (b = true → FB N km)) : W ∧ FB (N + 1) x ∧ (b = true → FB (N + 1) km) := ⟨h.1, e h.2.1, fun q => FB_up (h.2.2 q)⟩
theorem FB_eq {N : Nat} {m x : Nat → Int32} (h : FB N m) (e : ∀ k, k < 8 → x (4 * k + 3) = m (4 * k + 3)) : FB N x := fun k hk => by rw [e k hk]; exact h k hk
theorem win_sh {s : Int32} (h : win s 0 7 = true) : ∃ j : Nat, j < 8 ∧ s = nI j := by
  obtain ⟨j, h1, h2⟩ := win_nI (B := 7) (by decide) h
  exact ⟨j, by omega, h2⟩
theorem updL_s {f : Nat → Int64} {k : Nat} {x : Int64} : vp_updL f k x k = x := by unfold vp_updL; rw [if_pos rfl]
theorem updL_n {f : Nat → Int64} {k j : Nat} {x : Int64} (h : j ≠ k) : vp_updL f k x j = f j := by unfold vp_updL; rw [if_neg h]
theorem vaup_s {f : Nat → Nat → Int64} {k : Nat} {x : Nat → Int64} : va_up f k x k = x := by unfold va_up; rw [if_pos rfl]
theorem vaup_n {f : Nat → Nat → Int64} {k j : Nat} {x : Nat → Int64} (h : j ≠ k) : va_up f k x j = f j := by unfold va_up; rw [if_neg h]
theorem nI_s (i : Nat) (h : i + 1 < 2147483648) : nI i + 1 = nI (i + 1) := by
  refine i_eq.mpr ?_
  rw [i_add (by rw [nI_t (by omega)]; show _ ≤ _ + (1 : Int); omega) (by rw [nI_t (by omega)]; show _ + (1 : Int) < _; omega), nI_t (by omega), nI_t h]
  show _ + (1 : Int) = _
  omega
theorem nI_40 (j i : Nat) (hj : j < 8) (hi : i < 40) : (40 : Int32) * nI j + nI i = nI (40 * j + i) := by
  have e : ((40 : Int32) * nI j).toInt = 40 * (j : Int) := by
    rw [i_mul (by rw [nI_t (by omega)]; show _ ≤ (40 : Int) * _; omega) (by rw [nI_t (by omega)]; show (40 : Int) * _ < _; omega), nI_t (by omega)]
    rfl
  refine i_eq.mpr ?_
  rw [i_add (by rw [nI_t (by omega), e]; omega) (by rw [nI_t (by omega), e]; omega), nI_t (by omega), nI_t (by omega), e]
  omega
theorem nIle {a b : Nat} (ha : a < 2147483648) (hb : b < 2147483648) : nI a ≤ nI b ↔ a ≤ b := by rw [i_le, nI_t ha, nI_t hb]; omega
theorem nIlt {a b : Nat} (ha : a < 2147483648) (hb : b < 2147483648) : nI a < nI b ↔ a < b := by rw [i_lt, nI_t ha, nI_t hb]; omega
theorem nIeq {a b : Nat} (ha : a < 2147483648) (hb : b < 2147483648) : nI a = nI b ↔ a = b := by rw [i_eq, nI_t ha, nI_t hb]; omega
theorem nle {a i : Nat} (h : i < a) (ha : a < 2147483648) : ¬ nI a ≤ nI i := fun q => by have := (nIle ha (by omega)).mp q; omega
/-- both shelves wiped from i on -/
theorem row_loop (n : Int32) (rf : Nat → Int32) {j : Nat} (hj : j < 8) (a ho sz : Nat → Int32) (s1 : Nat → Int32) : ∀ (r f i : Nat) (s2 : Nat → Nat → Int64) (el : Nat → Int64), i + r = 40 → r < f → (∀ q, q < 8 → q ≠ j → ∀ k, k < 40 → s2 q k = el (40 * q + k)) → (∀ k, k < i → s2 j k = el (40 * j + k)) → ∃ s2' el', zf_X1_placeRow_35 f (nI j) (nI i) (a, s1, s2) = some (a, s1, s2') ∧ zf_X8_row_55 f (nI j) (nI i) rf ho sz el = some (1, rf, ho, sz, el') ∧ ∀ q, q < 8 → ∀ k, k < 40 → s2' q k = el' (40 * q + k)
  | _, 0, _, _, _, _, h, _, _ => absurd h (Nat.not_lt_zero _)
  | 0, f + 1, i, s2, el, h0, _, h1, h2 => by
    have e : i = 40 := by omega
    subst e
    unfold zf_X1_placeRow_35 zf_X8_row_55
    rw [if_pos (by decide), if_pos (by decide)]
    refine ⟨s2, el, rfl, rfl, fun q hq k hk => ?_⟩
    by_cases e : q = j
    · subst e; exact h2 k hk
    · exact h1 q hq e k hk
  | r + 1, f + 1, i, s2, el, h0, h, h1, h2 => by
    unfold zf_X1_placeRow_35 zf_X8_row_55
    have hn : ¬ (40 : Int32) ≤ nI i := nle (a := 40) (by omega) (by decide)
    rw [if_neg hn, if_neg hn, if_pos (ix_nI hj (by omega)), if_pos (ix_nI (by omega) (by omega)), nI_40 j i hj (by omega), if_pos (ix_nI (by omega) (by omega)), nI_s i (by omega), cl_nI (by omega), cl_nI (by omega), cl_nI (by omega)]
    refine row_loop n rf hj a ho sz s1 r f (i + 1) _ _ (by omega) (by omega) (fun q hq hne k hk => ?_) (fun k hk => ?_)
    · show va_up s2 j _ q k = _
      rw [vaup_n hne, updL_n (by omega), h1 q hq hne k hk]
    · show va_up s2 j _ j k = _
      rw [vaup_s]
      by_cases e : k = i
      · subst e; rw [updL_s, updL_s]
      · rw [updL_n e, updL_n (by omega)]; exact h2 k (by omega)
theorem RSho {n : Int32} {sh : TSh} {ho sz : Nat → Int32} {el : Nat → Int64} (hs : RS n sh ho sz el) {j : Nat} (hj : j < 8) {x y : Int32} (hx : HOK n x) (hy : bnd y 0 40) {s2 : Nat → Nat → Int64} {el' : Nat → Int64} (he : ∀ q, q < 8 → ∀ k, k < 40 → s2 q k = el' (40 * q + k)) : RS n (upd sh.1 j x, upd sh.2.1 j y, s2) (upd ho j x) (upd sz j y) el' := by
  intro q hq
  obtain ⟨a, b, c, d, -⟩ := hs q hq
  by_cases e : q = j
  · subst e
    rw [upd_s, upd_s]
    exact ⟨upd_s, upd_s, hx, hy, fun i hi => he q hq i hi⟩
  · rw [upd_n e, upd_n e]
    exact ⟨(upd_n e).trans a, (upd_n e).trans b, c, d, fun i hi => he q hq i hi⟩
theorem r7_2 (rf : Nat → Int32) : zf_X7_refused (-2) rf = some (-2, upd rf 0 (rf 0 + 1)) := ref7 0 (by decide) (by decide) rf
theorem r8_2 (rf : Nat → Int32) : zf_X8_refuse (-2) rf = some (-2, upd rf 2 (rf 2 + 1)) := ref8 0 (by decide) (by decide) rf
theorem rf_2 {rf rfd : Nat → Int32} (h : RF rf rfd) : RF (upd rf 0 (rf 0 + 1)) (upd rfd 2 (rfd 2 + 1)) := RF_up h (i := 0) (by decide)
theorem r7_3 (rf : Nat → Int32) : zf_X7_refused (-3) rf = some (-3, upd rf 1 (rf 1 + 1)) := ref7 1 (by decide) (by decide) rf
theorem r8_3 (rf : Nat → Int32) : zf_X8_refuse (-3) rf = some (-3, upd rf 3 (rf 3 + 1)) := ref8 1 (by decide) (by decide) rf
theorem rf_3 {rf rfd : Nat → Int32} (h : RF rf rfd) : RF (upd rf 1 (rf 1 + 1)) (upd rfd 3 (rfd 3 + 1)) := RF_up h (i := 1) (by decide)
theorem r7_4 (rf : Nat → Int32) : zf_X7_refused (-4) rf = some (-4, upd rf 2 (rf 2 + 1)) := ref7 2 (by decide) (by decide) rf
theorem r8_4 (rf : Nat → Int32) : zf_X8_refuse (-4) rf = some (-4, upd rf 4 (rf 4 + 1)) := ref8 2 (by decide) (by decide) rf
theorem rf_4 {rf rfd : Nat → Int32} (h : RF rf rfd) : RF (upd rf 2 (rf 2 + 1)) (upd rfd 4 (rfd 4 + 1)) := RF_up h (i := 2) (by decide)
theorem r7_5 (rf : Nat → Int32) : zf_X7_refused (-5) rf = some (-5, upd rf 3 (rf 3 + 1)) := ref7 3 (by decide) (by decide) rf
theorem r8_5 (rf : Nat → Int32) : zf_X8_refuse (-5) rf = some (-5, upd rf 5 (rf 5 + 1)) := ref8 3 (by decide) (by decide) rf
theorem rf_5 {rf rfd : Nat → Int32} (h : RF rf rfd) : RF (upd rf 3 (rf 3 + 1)) (upd rfd 5 (rfd 5 + 1)) := RF_up h (i := 3) (by decide)
theorem r7_6 (rf : Nat → Int32) : zf_X7_refused (-6) rf = some (-6, upd rf 4 (rf 4 + 1)) := ref7 4 (by decide) (by decide) rf
theorem r8_6 (rf : Nat → Int32) : zf_X8_refuse (-6) rf = some (-6, upd rf 6 (rf 6 + 1)) := ref8 4 (by decide) (by decide) rf
theorem rf_6 {rf rfd : Nat → Int32} (h : RF rf rfd) : RF (upd rf 4 (rf 4 + 1)) (upd rfd 6 (rfd 6 + 1)) := RF_up h (i := 4) (by decide)
variable {n : Int32} {sh : TSh} {rf rfd ho sz : Nat → Int32} {el : Nat → Int64}
theorem q_row (hf : RF rf rfd) (hs : RS n sh ho sz el) (x1 x2 x3 : Int32) : ∃ r1 r2, zf_X7_row x1 x2 x3 sh rf = some r1 ∧ zf_X8_row x1 x2 x3 rfd ho sz el = some r2 ∧ r1.1 = r2.1 ∧ RF r1.2.2 r2.2.1 ∧ RS n r1.2.1 r2.2.2.1 r2.2.2.2.1 r2.2.2.2.2 := by
  have hno : ∃ r1 r2, zf_X7_row_26 sh rf = some r1 ∧ zf_X8_row_31 rfd ho sz el = some r2 ∧ r1.1 = r2.1 ∧ RF r1.2.2 r2.2.1 ∧ RS n r1.2.1 r2.2.2.1 r2.2.2.2.1 r2.2.2.2.2 := by
    unfold zf_X7_row_26 zf_X8_row_31
    rw [r7_2, r8_2]
    exact ⟨_, _, rfl, rfl, rfl, rf_2 hf, hs⟩
  unfold zf_X7_row zf_X8_row zf_X1_placeRow
  rw [shelf7, shelf8, win7, win7, win8 (a := 0) (b := 4) (by decide) (by decide), win8 (a := 0) (b := 40) (by decide) (by decide)]
  simp only [Option.bind_some]
  cases h1 : win x1 0 7
  · exact hno
  cases h2 : win x2 0 4
  · exact hno
  cases h3 : win x3 0 40
  · exact hno
  simp only [if_true]
  obtain ⟨j, hj, rfl⟩ := win_sh h1
  rw [if_pos (ix_nI hj (by decide)), if_pos (ix_nI hj (by decide)), if_pos (ix_nI hj (by decide)), if_pos (ix_nI hj (by decide)), cl_nI (by omega)]
  obtain ⟨b2, h2a, rfl⟩ := win_nI (B := 4) (by decide) h2
  obtain ⟨b3, h3a, rfl⟩ := win_nI (B := 40) (by decide) h3
  obtain ⟨s2', el', e1, e2, e3⟩ := row_loop n rfd hj (upd sh.1 j (nI b2)) (upd ho j (nI b2)) (upd sz j (nI b3)) (upd sh.2.1 j (nI b3)) 40 FU 0 sh.2.2 el rfl (by decide) (fun q hq _ k hk => (hs q hq).2.2.2.2 k hk) (fun k hk => absurd hk (Nat.not_lt_zero _))
  rw [show (0 : Int32) = nI 0 from rfl, e1, e2]
  exact ⟨_, _, rfl, rfl, rfl, hf, RSho hs hj (Or.inr (Or.inl ⟨b2, by omega, h2a, rfl⟩)) ⟨b3, by omega, h3a, rfl⟩ e3⟩
theorem pl_row : PL_row := by
  intro σ μ x1 x2 x3 N hN hrel
  obtain ⟨hc, hk, hf, hs, ht, ha, hwd⟩ := hrel
  obtain ⟨r1, r2, h1, h2, h3, h4, h5⟩ := q_row hf hs x1 x2 x3
  exact ⟨r1, r2, h1, h2, h3, hc, hk, h4, h5, ht, ha, up hwd⟩

theorem cont7 (hs : RS n sh ho sz el) {j : Nat} (hj : j < 8) : zf_X1_contentOf (nI j) sh = some (ho j) := by
  unfold zf_X1_contentOf
  rw [if_neg (fun q => by have := i_lt.mp q; rw [nI_t (by omega), show (0 : Int32).toInt = 0 from rfl] at this; omega), if_neg (show ¬ (8 : Int32) ≤ nI j from nle (a := 8) hj (by decide)), if_pos (ix_nI hj (by decide)), cl_nI (by omega), (hs j hj).1]
theorem cont7x {x : Int32} (h : win x 0 7 = false) : zf_X1_contentOf x sh = some (-1) := by
  unfold zf_X1_contentOf
  by_cases a : x < 0
  · rw [if_pos a]
  · rw [if_neg a]
    by_cases b : (8 : Int32) ≤ x
    · rw [if_pos b]
    · have a := i_nlt a
      have b := i_nle b
      rw [show (0 : Int32).toInt = 0 from rfl] at a
      rw [show (8 : Int32).toInt = 8 from rfl] at b
      have : win x 0 7 = true := win_iff.mpr ⟨a, by show _ ≤ (7 : Int); omega⟩
      rw [h] at this
      cases this
theorem row7 (hs : RS n sh ho sz el) {j : Nat} (hj : j < 8) : zf_X1_holdsRow (nI j) sh = some (win (ho j) 0 4) := by
  unfold zf_X1_holdsRow
  rw [cont7 hs hj, Option.bind_some, win7, Option.bind_some]
theorem kpr7 (hs : RS n sh ho sz el) {j : Nat} (hj : j < 8) : zf_X1_holdsKeeper (nI j) sh = some (!decide (ho j < 10)) := by
  unfold zf_X1_holdsKeeper
  rw [cont7 hs hj, Option.bind_some, if_nd]
/-- what stands on a shelf -/
theorem hok {x : Int32} (h : HOK n x) : (x = -1 ∧ win x 0 4 = false ∧ x < 10) ∨ (win x 0 4 = true ∧ x < 10 ∧ x ≠ -1 ∧ bnd x 0 4) ∨ ∃ k : Nat, k < 8 ∧ nI k < n ∧ x = nI (10 + k) ∧ win x 0 4 = false ∧ ¬ x < 10 ∧ x ≠ -1 ∧ x - 10 = nI k := by
  rcases h with rfl | h | ⟨k, h8, hn, rfl⟩
  · exact Or.inl ⟨rfl, by decide, by decide⟩
  · refine Or.inr (Or.inl ?_)
    obtain ⟨b, -, h4, rfl⟩ := h
    refine ⟨win_iff.mpr ⟨by rw [nI_t (by omega)]; show (0 : Int) ≤ _; omega, by rw [nI_t (by omega)]; show _ ≤ (4 : Int); omega⟩, i_lt.mpr (by rw [nI_t (by omega)]; show _ < (10 : Int); omega), fun q => ?_, ⟨b, by omega, h4, rfl⟩⟩
    have := i_eq.mp q
    rw [nI_t (by omega), show (-1 : Int32).toInt = -1 from rfl] at this
    omega
  · refine Or.inr (Or.inr ⟨k, h8, hn, rfl, ?_, fun q => ?_, fun q => ?_, ?_⟩)
    · refine Bool.eq_false_iff.mpr fun q => ?_
      have := (win_iff.mp q).2
      rw [nI_t (by omega), show (4 : Int32).toInt = 4 from rfl] at this
      omega
    · have := i_lt.mp q
      rw [nI_t (by omega), show (10 : Int32).toInt = 10 from rfl] at this
      omega
    · have := i_eq.mp q
      rw [nI_t (by omega), show (-1 : Int32).toInt = -1 from rfl] at this
      omega
    · refine i_eq.mpr ?_
      rw [i_sub (by rw [nI_t (by omega)]; show _ ≤ _ - (10 : Int); omega) (by rw [nI_t (by omega)]; show _ - (10 : Int) < _; omega), nI_t (by omega), nI_t (by omega), show (10 : Int32).toInt = 10 from rfl]
      omega
theorem q_holds (hs : RS n sh ho sz el) (x1 : Int32) : ∃ r, zf_X7_holds x1 sh = some r ∧ zf_X8_holds x1 ho = some r := by
  unfold zf_X7_holds zf_X8_holds
  rw [shelf8]
  cases h1 : win x1 0 7
  · rw [cont7x h1]; exact ⟨_, rfl, rfl⟩
  · obtain ⟨j, hj, rfl⟩ := win_sh h1
    rw [cont7 hs hj, Option.bind_some, Option.bind_some, if_pos rfl, if_pos (ix_nI hj (by decide)), cl_nI (by omega)]
    exact ⟨_, rfl, rfl⟩
theorem pl_holds : PL_holds := by
  intro σ μ x1 N hN hrel
  obtain ⟨r, h1, h2⟩ := q_holds hrel.2.2.2.1 x1
  exact ⟨r, r, h1, h2, rfl, REL_up hrel⟩
theorem sz1 {y : Int32} (hy : bnd y 0 40) : (y - 1).toInt = y.toInt - 1 := by
  obtain ⟨a, b⟩ := (bnd_iff (by decide)).mp hy
  rw [i_sub (by show _ ≤ _ - (1 : Int); omega) (by show _ - (1 : Int) < _; omega)]
  rfl
/-- an element that the row has -/
def hEl (x y : Int32) : Bool := win x 0 (y - 1)
theorem hEl_iff {x y : Int32} (hy : bnd y 0 40) : hEl x y = true ↔ 0 ≤ x.toInt ∧ x.toInt < y.toInt := by
  unfold hEl
  rw [win_iff, sz1 hy, show (0 : Int32).toInt = 0 from rfl]
  omega
theorem hasEl7 (hs : RS n sh ho sz el) {j : Nat} (hj : j < 8) (x : Int32) : zf_X1_hasElement (nI j) x sh = some (win (ho j) 0 4 && hEl x (sz j)) := by
  unfold zf_X1_hasElement
  rw [row7 hs hj, Option.bind_some]
  cases win (ho j) 0 4
  · rfl
  rw [if_pos rfl, Bool.true_and, cl_nI (by omega), (hs j hj).2.1, if_pos (ix_nI hj (by decide))]
  have hy := (hs j hj).2.2.2.1
  obtain ⟨ha, hb⟩ := (bnd_iff (by decide)).mp hy
  have e0 : (0 : Int32).toInt = 0 := rfl
  have e40 : (40 : Int32).toInt = 40 := rfl
  by_cases a : x < 0
  · rw [if_pos a, show hEl x (sz j) = false from Bool.eq_false_iff.mpr (fun q => by have := (hEl_iff hy).mp q; have := i_lt.mp a; omega)]
  · rw [if_neg a]
    by_cases b : sz j ≤ x
    · rw [if_pos b, show hEl x (sz j) = false from Bool.eq_false_iff.mpr (fun q => by have := (hEl_iff hy).mp q; have := i_le.mp b; omega)]
    · rw [if_neg b, if_neg (fun q => b (i_le.mpr (by have := i_le.mp q; omega))), (hEl_iff hy).mpr ⟨by have := i_nlt a; omega, i_nle b⟩]
theorem hEl_nI {x y : Int32} (hy : bnd y 0 40) (h : hEl x y = true) : ∃ i : Nat, i < 40 ∧ x = nI i := by
  obtain ⟨a, b⟩ := (hEl_iff hy).mp h
  obtain ⟨ha, hb⟩ := (bnd_iff (by decide)).mp hy
  exact ⟨x.toInt.toNat, by omega, i_eq.mpr (by rw [nI_t (by omega)]; omega)⟩
theorem hEl8 (x y : Int32) : zf_X8_isIn x.toInt64 0 (y - 1).toInt64 = some (hEl x y) := win8 (a := 0) (by decide) rfl
theorem q_element (hs : RS n sh ho sz el) (x1 x2 : Int32) : ∃ r, zf_X7_element x1 x2 sh = some r ∧ zf_X8_element x1 x2 ho sz el = some r := by
  unfold zf_X7_element zf_X8_element zf_X1_elementAt
  rw [shelf8]
  cases h1 : win x1 0 7
  · unfold zf_X1_hasElement zf_X1_holdsRow
    rw [cont7x h1]
    exact ⟨_, rfl, rfl⟩
  · obtain ⟨j, hj, rfl⟩ := win_sh h1
    rw [hasEl7 hs hj, Option.bind_some, Option.bind_some, if_pos rfl, if_pos (ix_nI hj (by decide)), if_pos (ix_nI hj (by decide)), if_pos (ix_nI hj (by decide)), cl_nI (by omega), win8 (a := 0) (b := 4) (by decide) (by decide), hEl8, Option.bind_some, Option.bind_some]
    cases hh : win (ho j) 0 4
    · exact ⟨_, rfl, rfl⟩
    cases he : hEl x2 (sz j)
    · exact ⟨_, rfl, rfl⟩
    obtain ⟨i, hi, rfl⟩ := hEl_nI (hs j hj).2.2.2.1 he
    rw [Bool.and_self, if_pos rfl, if_pos rfl, if_pos rfl, nI_40 j i hj hi, if_pos (ix_nI hi (by decide)), if_pos (ix_nI (by omega) (by decide)), cl_nI (by omega), cl_nI (by omega), (hs j hj).2.2.2.2 i hi]
    exact ⟨_, rfl, rfl⟩
theorem pl_element : PL_element := by
  intro σ μ x1 x2 N hN hrel
  obtain ⟨r, h1, h2⟩ := q_element hrel.2.2.2.1 x1 x2
  exact ⟨r, r, h1, h2, rfl, REL_up hrel⟩

theorem RSel (hs : RS n sh ho sz el) {j i : Nat} (hj : j < 8) (hi : i < 40) (v : Int64) : RS n (sh.1, sh.2.1, va_up sh.2.2 j (vp_updL (sh.2.2 j) i v)) ho sz (vp_updL el (40 * j + i) v) := by
  intro q hq
  obtain ⟨a, b, c, d, e⟩ := hs q hq
  refine ⟨a, b, c, d, fun k hk => ?_⟩
  show va_up sh.2.2 j _ q k = _
  by_cases e1 : q = j
  · subst e1
    rw [vaup_s]
    by_cases e2 : k = i
    · subst e2; rw [updL_s, updL_s]
    · rw [updL_n e2, updL_n (by omega)]; exact e k hk
  · rw [vaup_n e1, updL_n (by omega)]; exact e k hk
theorem rowIn8 (hs : RS n sh ho sz el) {j : Nat} (hj : j < 8) : zf_X8_rowIn (nI j) ho = some (if ho j < 10 then (if ho j = -1 then -4 else 1) else -3) := by
  unfold zf_X8_rowIn
  rw [if_pos (ix_nI hj (by decide)), if_pos (ix_nI hj (by decide)), cl_nI (by omega)]
  by_cases a : ho j < 10
  · rw [if_pos a, if_pos a]
    by_cases b : ho j = -1
    · rw [if_pos b, if_pos b]
    · rw [if_neg b, if_neg b]
  · rw [if_neg a, if_neg a]
def cut (h : Int32) (x : Int64) : Int64 := if h = 0 then x.toInt32.toInt8.toInt32.toInt64 else if h = 1 then x.toInt32.toInt16.toInt32.toInt64 else if h = 2 then x.toInt32.toInt64 else if h = 3 then x else if lg_cmp x 0 = 0 then 0 else 1
theorem bnd4 {x : Int32} (h : bnd x 0 4) : x = 0 ∨ x = 1 ∨ x = 2 ∨ x = 3 ∨ x = 4 := by
  obtain ⟨b, -, h4, rfl⟩ := h
  have hb : b = 0 ∨ b = 1 ∨ b = 2 ∨ b = 3 ∨ b = 4 := by omega
  rcases hb with rfl | rfl | rfl | rfl | rfl
  · exact Or.inl rfl
  · exact Or.inr (Or.inl rfl)
  · exact Or.inr (Or.inr (Or.inl rfl))
  · exact Or.inr (Or.inr (Or.inr (Or.inl rfl)))
  · exact Or.inr (Or.inr (Or.inr (Or.inr rfl)))
theorem cut7 {h : Int32} (hb : bnd h 0 4) (x : Int64) : zf_X1_cutTo h x = some (cut h x) := by
  unfold zf_X1_cutTo cut
  rcases bnd4 hb with rfl | rfl | rfl | rfl | rfl
  · rfl
  · rfl
  · rfl
  · rfl
  · by_cases e : lg_cmp x 0 = 0
    · rw [if_pos e, if_pos e]; rfl
    · rw [if_neg e, if_neg e]; rfl
theorem q_set (hf : RF rf rfd) (hs : RS n sh ho sz el) (x1 x2 : Int32) (x3 : Int64) : ∃ r1 r2, zf_X7_set x1 x2 x3 sh rf = some r1 ∧ zf_X8_set x1 x2 x3 rfd ho sz el = some r2 ∧ r1.1 = r2.1 ∧ RF r1.2.2 r2.2.1 ∧ RS n r1.2.1 ho sz r2.2.2 := by
  unfold zf_X7_set zf_X8_set zf_X7_rowFault
  rw [shelf7, shelf8]
  simp only [Option.bind_some]
  cases h1 : win x1 0 7
  · rw [r8_2]
    simp only [Bool.false_eq_true, if_false, Option.bind_some]
    rw [if_neg (by decide), r7_2]
    exact ⟨_, _, rfl, rfl, rfl, rf_2 hf, hs⟩
  simp only [if_true]
  obtain ⟨j, hj, rfl⟩ := win_sh h1
  rw [kpr7 hs hj, row7 hs hj, rowIn8 hs hj]
  simp only [Option.bind_some]
  rcases hok (hs j hj).2.2.1 with ⟨e, e1, e2⟩ | ⟨e1, e2, e3, e4⟩ | ⟨k, h8, hn, e, e1, e2, e3, e4⟩
  · rw [e1, decide_eq_true e2, if_pos e2, if_pos e, r8_4]
    simp only [Bool.not_true, Bool.false_eq_true, if_false, Option.bind_some]
    rw [if_neg (by decide), if_neg (by decide), r7_4]
    exact ⟨_, _, rfl, rfl, rfl, rf_4 hf, hs⟩
  · rw [e1, decide_eq_true e2, if_pos e2, if_neg e3]
    simp only [Bool.not_true, Bool.false_eq_true, if_false, Option.bind_some, if_true]
    rw [if_pos (by decide), hasEl7 hs hj, e1, if_pos (ix_nI hj (by decide)), if_pos (ix_nI hj (by decide)), cl_nI (by omega), hEl8]
    simp only [Option.bind_some, Bool.true_and]
    cases he : hEl x2 (sz j)
    · rw [r7_2, r8_2]
      exact ⟨_, _, rfl, rfl, rfl, rf_2 hf, hs⟩
    simp only [if_true]
    obtain ⟨i, hi, rfl⟩ := hEl_nI (hs j hj).2.2.2.1 he
    unfold zf_X1_putElement
    rw [hasEl7 hs hj, e1, he, Bool.and_self, Option.bind_some, if_pos rfl, if_pos (ix_nI hj (by decide)), if_pos (ix_nI hj (by decide)), cl_nI (by omega), (hs j hj).1, cut7 e4, Option.bind_some, if_pos (ix_nI hi (by decide)), Option.bind_some, nI_40 j i hj hi, cl_nI (by omega)]
    have fin : (if ho j = 0 then zf_X8_set_133 ho sz x3.toInt32.toInt8.toInt32.toInt64 (nI (40 * j + i)) rfd el else (if ho j = (1 : Int32) then zf_X8_set_133 ho sz x3.toInt32.toInt16.toInt32.toInt64 (nI (40 * j + i)) rfd el else (if ho j = (2 : Int32) then zf_X8_set_133 ho sz x3.toInt32.toInt64 (nI (40 * j + i)) rfd el else (if ho j = (3 : Int32) then zf_X8_set_133 ho sz x3 (nI (40 * j + i)) rfd el else (if (lg_cmp x3 ((0 : Int64))) = 0 then zf_X8_set_133 ho sz ((0 : Int64)) (nI (40 * j + i)) rfd el else zf_X8_set_133 ho sz ((1 : Int64)) (nI (40 * j + i)) rfd el))))) = zf_X8_set_133 ho sz (cut (ho j) x3) (nI (40 * j + i)) rfd el := by
      unfold cut
      split
      · rfl
      split
      · rfl
      split
      · rfl
      split
      · rfl
      split
      · rfl
      · rfl
    rw [fin]
    unfold zf_X8_set_133
    rw [if_pos (ix_nI (by omega) (by decide)), cl_nI (by omega)]
    exact ⟨_, _, rfl, rfl, rfl, hf, RSel hs hj hi _⟩
  · rw [e1, decide_eq_false e2, if_neg e2, r8_3]
    simp only [Bool.not_false, if_true, Option.bind_some]
    rw [if_neg (by decide), if_neg (by decide), r7_3]
    exact ⟨_, _, rfl, rfl, rfl, rf_3 hf, hs⟩
theorem pl_set : PL_set := by
  intro σ μ x1 x2 x3 N hN hrel
  obtain ⟨hc, hk, hf, hs, ht, ha, hwd⟩ := hrel
  obtain ⟨r1, r2, h1, h2, h3, h4, h5⟩ := q_set hf hs x1 x2 x3
  exact ⟨r1, r2, h1, h2, h3, hc, hk, h4, h5, ht, ha, up hwd⟩
theorem RSsh (hs : RS n sh ho sz el) {j : Nat} (hj : j < 8) {x : Int32} (hx : HOK n x) : RS n (upd sh.1 j x, sh.2.1, sh.2.2) (upd ho j x) sz el := by
  intro q hq
  obtain ⟨a, b, c, d, e⟩ := hs q hq
  by_cases e1 : q = j
  · subst e1
    rw [upd_s]
    exact ⟨upd_s, b, hx, d, e⟩
  · rw [upd_n e1]
    exact ⟨(upd_n e1).trans a, b, c, d, e⟩
theorem q_show {st : TSt} {m : Nat → Int32} (hS : SM st m) (hn : bnd (m 32) 0 8) (hf : RF rf rfd) (hs : RS (m 32) sh ho sz el) (x1 x2 : Int32) : ∃ r1 r2, zf_X7_show x1 x2 st sh rf = some r1 ∧ zf_X8_show x1 x2 rfd m ho = some r2 ∧ r1.1 = r2.1 ∧ RF r1.2.2 r2.2.1 ∧ RS (m 32) r1.2.1 r2.2.2 sz el := by
  have hno : ∃ r1 r2, zf_X7_show_23 st sh rf = some r1 ∧ zf_X8_show_21 m rfd ho = some r2 ∧ r1.1 = r2.1 ∧ RF r1.2.2 r2.2.1 ∧ RS (m 32) r1.2.1 r2.2.2 sz el := by
    unfold zf_X7_show_23 zf_X8_show_21
    rw [r7_2, r8_2]
    exact ⟨_, _, rfl, rfl, rfl, rf_2 hf, hs⟩
  unfold zf_X7_show zf_X8_show
  rw [shelf7, shelf8]
  simp only [Option.bind_some]
  cases h1 : win x1 0 7
  · exact hno
  simp only [if_true]
  have h1' := h1
  obtain ⟨j, hj, rfl⟩ := win_sh h1
  have yes : ∀ y, HOK (m 32) y → (y = if x2 = -1 then -1 else 10 + x2) → ∃ r1 r2, zf_X7_show_30 st (nI j) x2 sh rf = some r1 ∧ zf_X8_show_28 m (nI j) x2 rfd ho = some r2 ∧ r1.1 = r2.1 ∧ RF r1.2.2 r2.2.1 ∧ RS (m 32) r1.2.1 r2.2.2 sz el := by
    intro y hy e
    have e1 : zf_X1_placeKeeper (nI j) x2 sh = some (upd sh.1 j y, sh.2.1, sh.2.2) := by
      unfold zf_X1_placeKeeper zf_X1_placeKeeper_25
      rw [shelf7, h1', Option.bind_some, if_pos rfl, if_pos (ix_nI hj (by decide)), if_pos (ix_nI hj (by decide)), cl_nI (by omega), e]
      split <;> rfl
    have e2 : zf_X8_show_28 m (nI j) x2 rfd ho = some (1, rfd, upd ho j y) := by
      unfold zf_X8_show_28 zf_X8_show_46
      rw [if_pos (ix_nI hj (by decide)), if_pos (ix_nI hj (by decide)), cl_nI (by omega), e]
      split <;> rfl
    unfold zf_X7_show_30
    rw [e1, e2]
    exact ⟨_, _, rfl, rfl, rfl, hf, RSsh hs hj hy⟩
  rw [hasKx hS hn, keeper8 _ hn]
  simp only [Option.bind_some]
  by_cases e : x2 = -1
  · rw [if_pos e, if_pos e]
    exact yes (-1) (Or.inl rfl) (by rw [if_pos e])
  · rw [if_neg e, if_neg e]
    cases hK : isK (m 32) x2.toInt64
    · exact hno
    · obtain ⟨k, h8, hk, rfl⟩ := isK_32 hn hK
      exact yes (nI (10 + k)) (Or.inr (Or.inr ⟨k, h8, hk, rfl⟩)) (by rw [if_neg e, ← nI_add]; rfl)
theorem pl_show : PL_show := by
  intro σ μ x1 x2 N hN hrel
  obtain ⟨hc, hk, hf, hs, ht, ha, hwd⟩ := hrel
  obtain ⟨r1, r2, h1, h2, h3, h4, h5⟩ := q_show (RC_SM hc.1) hc.2.1.1 hf hs x1 x2
  exact ⟨r1, r2, h1, h2, h3, hc, hk, h4, h5, ht, ha, up hwd⟩
