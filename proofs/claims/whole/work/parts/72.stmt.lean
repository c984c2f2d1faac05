/-! pure rows: one statement of a house's text -/
variable {tp L : Nat → Int32} {z : Nat} {te : TTe} {st : TSt} {m m0 : Nat → Int32}
def SI (m0 : Nat → Int32) (te : TTe) (st : TSt) (m : Nat → Int32) : Prop := RC te st m ∧ RNG m ∧ (∀ j, 38 ≤ j → m j = m0 j) ∧ m0 32 ≤ m 32 ∧ ∀ N, FB N m0 → FB N m
theorem SI_self (hc : RC te st m) (hr : RNG m) : SI m te st m := ⟨hc, hr, fun _ _ => rfl, i_le.mpr (Int.le_refl _), fun _ h => h⟩
theorem SI_ad {c : Nat} (h8 : c < 8) (ec : m 32 = nI c) (hs : SI m0 te st m) {b1 b2 b3 : Nat} (h1 : b1 ≤ 5) (h2 : b2 ≤ 9) (h3 : b3 ≤ 40) : SI m0 te (nI (c + 1), upd st.2.1 c (nI b1), upd st.2.2.1 c (nI b2), upd st.2.2.2.1 c (nI b3), upd st.2.2.2.2 c 0) (ad m c (nI b1) (nI b2) (nI b3)) := by
  obtain ⟨k1, k2, k3, k4, k5⟩ := hs
  refine ⟨RC_ad h8 k1 _ _ _, RNG_ad h8 k2 h1 h2 h3, fun j hj => (ad_o _ _ _ (by omega)).trans (k3 j hj), ?_, fun N h => FB_ad h8 (k5 N h) _ _ _⟩
  rw [ec] at k4
  have e : ad m c (nI b1) (nI b2) (nI b3) 32 = nI (c + 1) := by unfold ad; rw [upd_s]
  rw [e]
  refine i_le.mpr ?_
  have := i_le.mp k4
  rw [nI_t (by omega)] at *
  omega
theorem SI_nerve {k : Nat} (h8 : k < 8) (hs : SI m0 te st m) {x : Int32} (hx : bnd x 0 40) : SI m0 te (st.1, st.2.1, st.2.2.1, upd st.2.2.2.1 k x, st.2.2.2.2) (upd m (4 * k + 2) x) := by
  obtain ⟨k1, k2, k3, k4, k5⟩ := hs
  refine ⟨RC_nerve k1 h8 x, RNG_nerve k2 h8 hx, fun j hj => (upd_n (by omega)).trans (k3 j hj), ?_, fun N h => FB_eq (k5 N h) (fun q hq => upd_n (by omega))⟩
  rw [upd_n (by omega)]
  exact k4
theorem RC_meas (hc : RC te st m) {i : Nat} (hi : i < 5) (x : Int32) : ∃ te', zf_X5_putMeasure (nI i) x te = some te' ∧ RC te' st (upd m (33 + i) x) := by
  obtain ⟨g1, g2, g3, g4, g5, g6, g7⟩ := hc
  have g7' : ∀ k, k < 8 → st.2.1 k = (upd m (33 + i) x) (4 * k) ∧ st.2.2.1 k = (upd m (33 + i) x) (4 * k + 1) ∧ st.2.2.2.1 k = (upd m (33 + i) x) (4 * k + 2) ∧ st.2.2.2.2 k = (upd m (33 + i) x) (4 * k + 3) := by
    intro k hk
    rw [upd_n (by omega), upd_n (by omega), upd_n (by omega), upd_n (by omega)]
    exact g7 k hk
  have hu : ∀ j, j ≠ 33 + i → upd m (33 + i) x j = m j := fun j hj => upd_n hj
  have hs : upd m (33 + i) x (33 + i) = x := upd_s
  have hi : i = 0 ∨ i = 1 ∨ i = 2 ∨ i = 3 ∨ i = 4 := by omega
  rcases hi with rfl | rfl | rfl | rfl | rfl
  · exact ⟨_, rfl, hs.symm, g2.trans (hu 34 (by decide)).symm, g3.trans (hu 35 (by decide)).symm, g4.trans (hu 36 (by decide)).symm, g5.trans (hu 37 (by decide)).symm, g6.trans (hu 32 (by decide)).symm, g7'⟩
  · exact ⟨_, rfl, g1.trans (hu 33 (by decide)).symm, hs.symm, g3.trans (hu 35 (by decide)).symm, g4.trans (hu 36 (by decide)).symm, g5.trans (hu 37 (by decide)).symm, g6.trans (hu 32 (by decide)).symm, g7'⟩
  · exact ⟨_, rfl, g1.trans (hu 33 (by decide)).symm, g2.trans (hu 34 (by decide)).symm, hs.symm, g4.trans (hu 36 (by decide)).symm, g5.trans (hu 37 (by decide)).symm, g6.trans (hu 32 (by decide)).symm, g7'⟩
  · exact ⟨_, rfl, g1.trans (hu 33 (by decide)).symm, g2.trans (hu 34 (by decide)).symm, g3.trans (hu 35 (by decide)).symm, hs.symm, g5.trans (hu 37 (by decide)).symm, g6.trans (hu 32 (by decide)).symm, g7'⟩
  · exact ⟨_, rfl, g1.trans (hu 33 (by decide)).symm, g2.trans (hu 34 (by decide)).symm, g3.trans (hu 35 (by decide)).symm, g4.trans (hu 36 (by decide)).symm, hs.symm, g6.trans (hu 32 (by decide)).symm, g7'⟩
theorem bnd_w {x : Int32} {a b A B : Nat} (h : bnd x A B) (h1 : a ≤ A) (h2 : B ≤ b) : bnd x a b := by
  obtain ⟨n, k1, k2, e⟩ := h
  exact ⟨n, by omega, by omega, e⟩
theorem RNG_meas (hr : RNG m) {i : Nat} (hi : i < 5) {x : Int32} {lo hi' : Nat} (hx : bnd x lo hi') (hb : (i = 0 → hi' ≤ 99) ∧ (i = 1 → hi' ≤ 99) ∧ (i = 2 → 1 ≤ lo ∧ hi' ≤ 9) ∧ (i = 3 → 1 ≤ lo ∧ hi' ≤ 99) ∧ (i = 4 → hi' ≤ 9999)) : RNG (upd m (33 + i) x) := by
  obtain ⟨q0, q1, q2, q3, q4, q5, q6⟩ := hr
  have hu : ∀ j, j ≠ 33 + i → upd m (33 + i) x j = m j := fun j hj => upd_n hj
  have hs : ∀ j, j = 33 + i → upd m (33 + i) x j = x := fun j hj => by rw [hj]; exact upd_s
  refine ⟨?_, ?_, ?_, ?_, ?_, ?_, fun k hk => ?_⟩
  · rw [hu 32 (by omega)]; exact q0
  · by_cases e : 33 = 33 + i
    · rw [hs _ e]; exact bnd_w hx (by omega) (hb.1 (by omega))
    · rw [hu _ e]; exact q1
  · by_cases e : 34 = 33 + i
    · rw [hs _ e]; exact bnd_w hx (by omega) (hb.2.1 (by omega))
    · rw [hu _ e]; exact q2
  · by_cases e : 35 = 33 + i
    · rw [hs _ e]; exact bnd_w hx (hb.2.2.1 (by omega)).1 (hb.2.2.1 (by omega)).2
    · rw [hu _ e]; exact q3
  · by_cases e : 36 = 33 + i
    · rw [hs _ e]; exact bnd_w hx (hb.2.2.2.1 (by omega)).1 (hb.2.2.2.1 (by omega)).2
    · rw [hu _ e]; exact q4
  · by_cases e : 37 = 33 + i
    · rw [hs _ e]; exact bnd_w hx (by omega) (hb.2.2.2.2 (by omega))
    · rw [hu _ e]; exact q5
  · rw [hu _ (by omega), hu _ (by omega), hu _ (by omega)]
    exact q6 k hk
theorem adS7 {c : Nat} (g6 : st.1 = nI c) (h8 : c < 8) (x1 x2 x3 : Int32) : ∃ y, zf_X2_add x1 x2 x3 st = some (y, (nI (c + 1), upd st.2.1 c x1, upd st.2.2.1 c x2, upd st.2.2.2.1 c x3, upd st.2.2.2.2 c 0)) := by
  have l8 : nI c < 8 := i_lt.mpr (by rw [nI_t (by omega)]; show _ < (8 : Int); omega)
  have n0 : ¬ nI c < 0 := fun q => by have := i_lt.mp q; rw [nI_t (by omega), show (0 : Int32).toInt = 0 from rfl] at this; omega
  have i8 := ix_nI (j := c) (n := 8) (by omega) (by decide)
  unfold zf_X2_add
  rw [g6, if_neg n0, if_pos l8, if_pos i8, if_pos i8, if_pos i8, if_pos i8, cl_nI (by omega), nI_1]
  exact ⟨_, rfl⟩
theorem adS8 {c : Nat} (ec : m 32 = nI c) (h8 : c < 8) (x1 x2 x3 : Int32) : ∃ y, zf_X8_add x1 x2 x3 m = some (y, ad m c x1 x2 x3) := by
  have E0 := e4 c
  have E1 : (4 : Int32) * nI c + 1 = nI (4 * c + 1) := e4a c 1
  have E2 : (4 : Int32) * nI c + 2 = nI (4 * c + 2) := e4a c 2
  have E3 : (4 : Int32) * nI c + 3 = nI (4 * c + 3) := e4a c 3
  unfold zf_X8_add
  rw [ec, E1, E2, E3, E0, if_pos (ix_nI (by omega) (by decide)), if_pos (ix_nI (by omega) (by decide)), if_pos (ix_nI (by omega) (by decide)), if_pos (ix_nI (by omega) (by decide)), cl_nI (by omega), cl_nI (by omega), cl_nI (by omega), cl_nI (by omega), upd_n (by omega), upd_n (by omega), upd_n (by omega), upd_n (by omega), ec, nI_1]
  exact ⟨_, rfl⟩
/-- both read on alike -/
def ST (L : Nat → Int32) (z : Nat) (m0 : Nat → Int32) (p : Nat) (c : Option (Bool × TTa × TTe × TSt)) (d : Option (Bool × (Nat → Int32) × Int32 × Int32 × Int32)) : Prop := ∃ (ok : Bool) (s : Int32) (f a : Nat) (v : Int32) (te : TTe) (st : TSt) (m : Nat → Int32), c = some (ok, (nI z, L, s, nI f, nI a, v), te, st) ∧ d = some (ok, m, nI a, nI f, s) ∧ SI m0 te st m ∧ p ≤ a ∧ f ≤ a ∧ a ≤ z
theorem nm1 {b : Nat} (h : b < 2147483648) : ¬ nI b = -1 := fun y => by
  have := i_eq.mp y
  rw [nI_t h, show (-1 : Int32).toInt = -1 from rfl] at this
  omega
theorem sKeeper (hT : TB tp L z) (hs : SI m0 te st m) {p f0 : Nat} (hp : p ≤ z) (hf : f0 ≤ p) (s0 v : Int32) : ST L z m0 p (Option.bind (zf_X4_readKeeper (nI z, L, s0, nI f0, nI p, v) st) (fun u9 => some (u9.1, u9.2.1, te, u9.2.2))) (Option.bind (zf_X8_many m) (fun u5 => (if u5 = (8 : Int32) then some (false, m, nI p, nI f0, s0) else zf_X8_isStatement_29 tp (nI z) zWORDS 0 m (nI p) (nI f0) s0))) := by
  obtain ⟨c, -, hc8, ec⟩ := hs.2.1.1
  have g6 : st.1 = nI c := (RC_SM hs.1).1.trans ec
  unfold zf_X4_readKeeper zf_X2_isFull zf_X8_many
  rw [g6, ec, Option.bind_some]
  by_cases e8 : c = 8
  · subst e8
    rw [if_neg (by decide), Option.bind_some, if_pos rfl, if_pos (by decide)]
    exact ⟨false, s0, f0, p, v, te, st, m, rfl, rfl, hs, Nat.le_refl _, hf, hp⟩
  have l8 : nI c < 8 := i_lt.mpr (by rw [nI_t (by omega)]; show _ < (8 : Int); omega)
  have n8 : ¬ nI c = 8 := fun q => by have := i_eq.mp q; rw [nI_t (by omega), show (8 : Int32).toInt = 8 from rfl] at this; omega
  rw [if_pos l8, Option.bind_some, if_neg Bool.false_ne_true, if_neg n8]
  unfold zf_X8_isStatement_29
  rw [if_pos rfl]
  obtain ⟨ok1, s1, f1, a1, w1, x1, p1, p2, p3, c1, d1, t1, u1⟩ := numB hT hp 0 5 s0 (nI f0) v (nI f0) s0
  rw [c1, d1, Option.bind_some, Option.bind_some]
  dsimp only
  cases ok1 with
  | false =>
    rw [if_neg Bool.false_ne_true, Option.bind_some, u1 rfl, if_pos rfl]
    exact ⟨false, s1, f1, a1, w1, te, st, m, rfl, rfl, hs, by omega, p2, p3⟩
  | true =>
    obtain ⟨e1, y1⟩ := t1 rfl
    obtain ⟨b1, hb1, rfl⟩ := win_nI (B := 5) (by decide) y1
    obtain ⟨ok2, s2, f2, a2, w2, x2, p4, p5, p6, c2, d2, t2, u2⟩ := numB hT p3 0 9 s1 (nI f1) (nI b1) (nI f1) s1
    rw [if_pos rfl, c2, e1, if_neg (nm1 (by omega)), d2, Option.bind_some, Option.bind_some]
    dsimp only
    cases ok2 with
    | false =>
      rw [if_neg Bool.false_ne_true, Option.bind_some, u2 rfl]
      exact ⟨false, s2, f2, a2, w2, te, st, m, rfl, rfl, hs, by omega, p5, p6⟩
    | true =>
      obtain ⟨e2, y2⟩ := t2 rfl
      obtain ⟨b2, hb2, rfl⟩ := win_nI (B := 9) (by decide) y2
      obtain ⟨ok3, s3, f3, a3, w3, x3, p7, p8, p9, c3, d3, t3, u3⟩ := numB hT p6 0 40 s2 (nI f2) (nI b2) (nI f2) s2
      unfold zf_X8_isStatement_56
      rw [if_pos rfl, c3, e2, if_neg (nm1 (by omega)), d3, Option.bind_some, Option.bind_some]
      dsimp only
      cases ok3 with
      | false =>
        rw [if_neg Bool.false_ne_true, Option.bind_some, u3 rfl]
        exact ⟨false, s3, f3, a3, w3, te, st, m, rfl, rfl, hs, by omega, p8, p9⟩
      | true =>
        obtain ⟨e3, y3⟩ := t3 rfl
        obtain ⟨b3, hb3, rfl⟩ := win_nI (B := 40) (by decide) y3
        obtain ⟨z1, r1⟩ := adS7 (st := st) g6 (by omega) (nI b1) (nI b2) (nI b3)
        obtain ⟨z2, r2⟩ := adS8 (m := m) ec (by omega) (nI b1) (nI b2) (nI b3)
        unfold zf_X8_isStatement_73 zf_X8_isStatement_90
        rw [if_pos rfl, r1, e3, if_neg (nm1 (by omega)), r2, Option.bind_some, Option.bind_some, Option.bind_some, if_neg (nm1 (by omega))]
        exact ⟨true, s3, f3, a3, nI b3, te, _, _, rfl, rfl, SI_ad (by omega) ec hs hb1 hb2 hb3, by omega, p8, p9⟩
theorem sNerve (hT : TB tp L z) (hs : SI m0 te st m) {p f0 : Nat} (hp : p ≤ z) (s0 v : Int32) : ST L z m0 p (Option.bind (zf_X4_readNerve (nI z, L, s0, nI f0, nI p, v) st) (fun u8 => some (u8.1, u8.2.1, te, u8.2.2))) (zf_X8_isStatement_29 tp (nI z) zWORDS 1 m (nI p) (nI f0) s0) := by
  obtain ⟨c, -, hc8, ec⟩ := hs.2.1.1
  have g6 : st.1 = nI c := (RC_SM hs.1).1.trans ec
  unfold zf_X4_readNerve zf_X8_isStatement_29 zf_X8_many
  rw [if_neg (by decide), if_pos rfl, g6, ec, Option.bind_some]
  obtain ⟨ok1, s1, f1, a1, w1, x1, p1, p2, p3, c1, d1, t1, u1⟩ := numB hT hp 0 (nI c - 1) s0 (nI f0) v (nI f0) s0
  rw [c1, d1, Option.bind_some, Option.bind_some]
  dsimp only
  cases ok1 with
  | false =>
    rw [if_neg Bool.false_ne_true, Option.bind_some, u1 rfl, if_pos rfl]
    exact ⟨false, s1, f1, a1, w1, te, st, m, rfl, rfl, hs, by omega, p2, p3⟩
  | true =>
    obtain ⟨e1, y1⟩ := t1 rfl
    obtain ⟨k, hk, rfl⟩ : ∃ k, k < c ∧ w1 = nI k := by
      by_cases e0 : c = 0
      · subst e0
        have h := win_iff.mp y1
        have h' : (0 : Int) ≤ w1.toInt ∧ w1.toInt ≤ -1 := h
        omega
      · rw [m1_nI (by omega) (by omega)] at y1
        obtain ⟨j, hj, e⟩ := win_nI (B := c - 1) (by omega) y1
        exact ⟨j, by omega, e⟩
    have hkm : nI k < m 32 := by rw [ec]; exact (nIlt (by omega) (by omega)).mpr hk
    obtain ⟨ok2, s2, f2, a2, w2, x2, p4, p5, p6, c2, d2, t2, u2⟩ := numB hT p3 0 40 s1 (nI f1) (nI k) (nI f1) s1
    rw [if_pos rfl, c2, e1, if_neg (nm1 (by omega)), d2, Option.bind_some, Option.bind_some]
    dsimp only
    cases ok2 with
    | false =>
      rw [if_neg Bool.false_ne_true, Option.bind_some, u2 rfl]
      exact ⟨false, s2, f2, a2, w2, te, st, m, rfl, rfl, hs, by omega, p5, p6⟩
    | true =>
      obtain ⟨e2, y2⟩ := t2 rfl
      obtain ⟨b2, hb2, rfl⟩ := win_nI (B := 40) (by decide) y2
      have E2 : (4 : Int32) * nI k + 2 = nI (4 * k + 2) := e4a k 2
      unfold zf_X2_putNerve zf_X8_isStatement_135 zf_X8_isStatement_152
      rw [if_pos rfl, hasK (RC_SM hs.1) hs.2.1.1 (by omega) hkm, e2, if_neg (nm1 (by omega)), E2, if_pos (ix_nI (by omega) (by decide)), cl_nI (by omega), Option.bind_some, if_pos rfl, if_pos (ix_nI (by omega) (by decide)), cl_nI (by omega), Option.bind_some, Option.bind_some, if_neg (nm1 (by omega))]
      exact ⟨true, s2, f2, a2, nI b2, te, _, _, rfl, rfl, SI_nerve (by omega) hs (bndI (by omega) hb2), by omega, p5, p6⟩
theorem sMeas0 (hT : TB tp L z) (hs : SI m0 te st m) {p f0 : Nat} (hp : p ≤ z) (s0 v : Int32) {i lo hi : Nat} (hi5 : i < 5) (hh : hi < 10000) (t : Bool) (e1 : zLEA i = nI lo) (e2 : bI t = nI lo) (hb : (i = 0 → hi ≤ 99) ∧ (i = 1 → hi ≤ 99) ∧ (i = 2 → 1 ≤ lo ∧ hi ≤ 9) ∧ (i = 3 → 1 ≤ lo ∧ hi ≤ 99) ∧ (i = 4 → hi ≤ 9999)) (hlo : lo < 10) : ST L z m0 p (Option.bind (zf_X4_readMeasure_27 (nI i) (nI hi) (nI z, L, s0, nI f0, nI p, v) te) (fun u7 => some (u7.1, u7.2.1, u7.2.2, st))) (zf_X8_isStatement_203 tp (nI z) zWORDS (nI (i + 2)) (nI hi) t m (nI p) (nI f0) s0) := by
  unfold zf_X4_readMeasure_27 zf_X8_isStatement_203
  rw [if_pos (ix_nI hi5 (by decide)), cl_nI (by omega), e1, e2]
  obtain ⟨ok1, s1, f1, a1, w1, x1, p1, p2, p3, c1, d1, t1, u1⟩ := numB hT hp (nI lo) (nI hi) s0 (nI f0) v (nI f0) s0
  rw [c1, d1, Option.bind_some, Option.bind_some]
  dsimp only
  cases ok1 with
  | false =>
    rw [if_neg Bool.false_ne_true, Option.bind_some, u1 rfl, if_pos rfl]
    exact ⟨false, s1, f1, a1, w1, te, st, m, rfl, rfl, hs, by omega, p2, p3⟩
  | true =>
    obtain ⟨q1, y1⟩ := t1 rfl
    have hw := win_iff.mp y1
    rw [nI_t (by omega), nI_t (by omega)] at hw
    have hx : bnd w1 lo hi := (bnd_iff (by omega)).mpr hw
    obtain ⟨b, hb1, hb2, rfl⟩ := hx
    obtain ⟨te', r1, r2⟩ := RC_meas hs.1 hi5 (nI b)
    have E : (33 : Int32) + nI (i + 2) - 2 = nI (33 + i) := by
      rw [show (33 : Int32) + nI (i + 2) = nI (33 + (i + 2)) from nI_add 33 (i + 2), show (2 : Int32) = nI 2 from rfl, sub_nI (by omega) (by omega)]
      congr 1
    unfold zf_X8_isStatement_224
    rw [if_pos rfl, r1, q1, if_neg (nm1 (by omega)), E, if_pos (ix_nI (by omega) (by decide)), cl_nI (by omega), Option.bind_some, Option.bind_some, if_neg (nm1 (by omega))]
    refine ⟨true, s1, f1, a1, nI b, te', st, _, rfl, rfl, ⟨r2, RNG_meas hs.2.1 hi5 ⟨b, hb1, hb2, rfl⟩ hb, fun j hj => (upd_n (by omega)).trans (hs.2.2.1 j hj), ?_, fun N h => FB_eq (hs.2.2.2.2 N h) (fun q hq => upd_n (by omega))⟩, by omega, p2, p3⟩
    rw [upd_n (by omega)]
    exact hs.2.2.2.1
theorem sMeas (hT : TB tp L z) (hs : SI m0 te st m) {p f0 : Nat} (hp : p ≤ z) (s0 v : Int32) {i : Nat} (hi : i < 5) : ST L z m0 p (Option.bind (zf_X4_readMeasure (nI i) (nI z, L, s0, nI f0, nI p, v) te) (fun u7 => some (u7.1, u7.2.1, u7.2.2, st))) (zf_X8_isStatement_29 tp (nI z) zWORDS (nI (i + 2)) m (nI p) (nI f0) s0) := by
  have hi : i = 0 ∨ i = 1 ∨ i = 2 ∨ i = 3 ∨ i = 4 := by omega
  rcases hi with rfl | rfl | rfl | rfl | rfl
  · exact sMeas0 hT hs hp s0 v (i := 0) (lo := 0) (hi := 99) (by decide) (by decide) false rfl rfl (by decide) (by decide)
  · exact sMeas0 hT hs hp s0 v (i := 1) (lo := 0) (hi := 99) (by decide) (by decide) false rfl rfl (by decide) (by decide)
  · exact sMeas0 hT hs hp s0 v (i := 2) (lo := 1) (hi := 9) (by decide) (by decide) true rfl rfl (by decide) (by decide)
  · exact sMeas0 hT hs hp s0 v (i := 3) (lo := 1) (hi := 99) (by decide) (by decide) true rfl rfl (by decide) (by decide)
  · exact sMeas0 hT hs hp s0 v (i := 4) (lo := 0) (hi := 999) (by decide) (by decide) false rfl rfl (by decide) (by decide)
